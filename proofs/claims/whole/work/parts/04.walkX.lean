theorem ac_nar1 : vp_nar .boolean 1 = 1 := by show (1 &&& 1 : Int32) = 1; decide
theorem ac_nar0 : vp_nar .boolean 0 = 0 := by show (0 &&& 1 : Int32) = 0; decide
theorem ac_narB (f : Bool) : narrow .boolean (.int (ac_bI f)) = .int (ac_bI f) := by cases f <;> exact congrArg Value.int (by decide)
section
variable {c : Nat} {st po ch fk od : Int32} {op v0 v1 v2 p0 p1 p2 nu sv ro : Nat → Int32}
theorem ac_wArr {post : Int32 → SX → Prop} {R A S : Nat → Int32} {q : Nat} (hq : q < 14) (a b : Int32)
    (h : post (ac_bI (ac_arr (R, A, S) q a b).2) (nI c, st, po, ch, fk, od, op, v0, v1, v2, p0, p1, p2, nu, (ac_arr (R, A, S) q a b).1.1, (ac_arr (R, A, S) q a b).1.2.1, (ac_arr (R, A, S) q a b).1.2.2, sv, ro)) : wpX_arrive post (nI c, st, po, ch, fk, od, op, v0, v1, v2, p0, p1, p2, nu, R, A, S, sv, ro) (nI q) a b := by
  have hi : vp_in (nI q) 14 := vp_in_nI hq (by omega)
  have hn : (nI q).toNatClampNeg = q := nI_clamp (by omega)
  unfold wpX_arrive
  dsimp only
  rw [hn]
  by_cases h0 : R q = 0
  · have e : ac_arr (R, A, S) q a b = ((upd R q 1, upd A q a, upd S q b), true) := if_pos h0
    rw [e] at h
    exact ⟨hi, br_t h0 ⟨hi, nm_r (e' := upd R q 1) (by rw [ac_nar1]) ⟨hi, nm_e ⟨hi, nm_e h⟩⟩⟩⟩
  · have e : ac_arr (R, A, S) q a b = ((R, upd A q (A q &&& a), upd S q (S q ||| b)), decide (¬ (A q &&& a = A q ∧ S q ||| b = S q))) := if_neg h0
    rw [e] at h
    refine ⟨hi, br_f h0 ⟨hi, nm_e ⟨hi, nm_e ⟨hi, ?_⟩⟩⟩⟩
    by_cases h1 : A q &&& a = A q
    · refine br_t h1 ⟨hi, ?_⟩
      by_cases h2 : S q ||| b = S q
      · rw [decide_eq_false (fun z => z ⟨h1, h2⟩)] at h
        refine br_t h2 ?_
        unfold wX_arrive_79
        rw [hn]
        exact ⟨hi, nm_e ⟨hi, nm_e ⟨ac_narB false, h⟩⟩⟩
      · rw [decide_eq_true (show ¬ (A q &&& a = A q ∧ S q ||| b = S q) from fun z => h2 z.2)] at h
        refine br_f h2 ?_
        unfold wX_arrive_74 wX_arrive_79
        rw [hn]
        exact ⟨hi, nm_e ⟨hi, nm_e ⟨ac_narB true, h⟩⟩⟩
    · rw [decide_eq_true (show ¬ (A q &&& a = A q ∧ S q ||| b = S q) from fun z => h1 z.1)] at h
      refine br_f h1 ?_
      unfold wX_arrive_74 wX_arrive_79
      rw [hn]
      exact ⟨hi, nm_e ⟨hi, nm_e ⟨ac_narB true, h⟩⟩⟩
theorem ac_wAft {post : Int32 → Prop} {R A S : Nat → Int32} (hop : ac_In 8 op) (hv0 : ac_In 4 v0) (hv1 : ac_In 4 v1) (hp0 : ac_In 5 p0) (hp1 : ac_In 5 p1) {p : Nat} (hp : p < 14) (x : Int32)
    (h : post (ac_af op v0 v1 p0 p1 p x)) : wpX_carriedAfter post (nI c, st, po, ch, fk, od, op, v0, v1, v2, p0, p1, p2, nu, R, A, S, sv, ro) (nI p) x := by
  have hi : vp_in (nI p) 14 := vp_in_nI hp (by omega)
  have hn : (nI p).toNatClampNeg = p := nI_clamp (by omega)
  have ev := (ac_InN hv0 (by omega) p).2
  have ea := (ac_InN hv1 (by omega) p).2
  have ew : 4 * p0 p = nI (4 * ac_n p0 p) := by
    rw [← pk_mul, ← (ac_InN hp0 (by omega) p).2]; rfl
  have eq : 4 * p1 p = nI (4 * ac_n p1 p) := by
    rw [← pk_mul, ← (ac_InN hp1 (by omega) p).2]; rfl
  unfold wpX_carriedAfter
  dsimp only
  rw [hn]
  unfold ac_af ac_xa at h
  obtain ⟨o, ho, eo⟩ := hop p
  rw [eo] at h
  refine ⟨hi, nm_r ev ⟨hi, nm_r ew (nm_e (nm_e ⟨hi, nm_r eo ?_⟩))⟩⟩
  have ho2 : o = 0 ∨ o = 1 ∨ o = 2 ∨ o = 3 ∨ o = 4 ∨ o = 5 ∨ o = 6 ∨ o = 7 := by omega
  rcases ho2 with rfl | rfl | rfl | rfl | rfl | rfl | rfl | rfl
  · rw [if_pos (by decide)] at h
    refine br_f (by decide) (br_f (by decide) (br_t (by decide) ?_))
    unfold wX_carriedAfter_72
    rw [nI_add]; exact h
  · rw [if_pos (by decide)] at h
    refine br_f (by decide) (br_f (by decide) (br_f (by decide) (br_t (by decide) ?_)))
    unfold wX_carriedAfter_72
    rw [nI_add]; exact h
  · rw [if_neg (by decide), if_pos (by decide)] at h
    refine br_f (by decide) (br_f (by decide) (br_f (by decide) (br_f (by decide) (br_t (by decide) ⟨hi, nm_e ?_⟩))))
    rw [eq]; exact h
  · rw [if_neg (by decide), if_neg (by decide), if_neg (by decide)] at h
    exact br_f (by decide) (br_f (by decide) (br_f (by decide) (br_f (by decide) (br_f (by decide) (br_t (by decide) h)))))
  · rw [if_neg (by decide), if_neg (by decide), if_pos (by decide)] at h
    refine br_f (by decide) (br_f (by decide) (br_f (by decide) (br_f (by decide) (br_f (by decide) (br_f (by decide) (br_t (by decide) ⟨hi, nm_e ?_⟩))))))
    rw [ea]; exact h
  · rw [if_neg (by decide), if_neg (by decide), if_neg (by decide)] at h
    exact br_f (by decide) (br_t (by decide) h)
  · rw [if_neg (by decide), if_neg (by decide), if_neg (by decide)] at h
    exact br_f (by decide) (br_t (by decide) h)
  · rw [if_neg (by decide), if_neg (by decide), if_neg (by decide)] at h
    exact br_f (by decide) (br_t (by decide) h)
theorem ac_wPos {post : Int32 → Prop} {R A S : Nat → Int32} (x : Int32) (h0 : ¬ x < 0 ∧ ¬ nI c ≤ x → post 1) (h1 : ¬ (¬ x < 0 ∧ ¬ nI c ≤ x) → post 0) : wpX_isPosition post (nI c, st, po, ch, fk, od, op, v0, v1, v2, p0, p1, p2, nu, R, A, S, sv, ro) x := by
  unfold wpX_isPosition
  exact br_c (fun z => h1 (fun y => y.1 z)) (fun z => br_c (fun z2 => h1 (fun y => y.2 z2)) (fun z2 => h0 ⟨z, z2⟩))
theorem ac_wNxt {post : Int32 → Prop} {R A S : Nat → Int32} {p : Nat} (hp : p < 14) (h0 : op p ≠ 6 ∧ op p ≠ 7 → post 1) (h1 : ¬ (op p ≠ 6 ∧ op p ≠ 7) → post 0) : wpX_canGoToNext post (nI c, st, po, ch, fk, od, op, v0, v1, v2, p0, p1, p2, nu, R, A, S, sv, ro) (nI p) := by
  have hi : vp_in (nI p) 14 := vp_in_nI hp (by omega)
  unfold wpX_canGoToNext
  dsimp only
  rw [nI_clamp (by omega : p < 2 ^ 31)]
  exact ⟨hi, br_c (fun z => h1 (fun y => y.1 z)) (fun z => ⟨hi, br_c (fun z2 => h1 (fun y => y.2 z2)) (fun z2 => h0 ⟨z, z2⟩)⟩)⟩
theorem ac_wTgt {post : Int32 → Prop} {R A S : Nat → Int32} {p : Nat} (hp : p < 14) (h0 : op p = 5 ∨ op p = 6 → post 1) (h1 : ¬ (op p = 5 ∨ op p = 6) → post 0) : wpX_canGoToTarget post (nI c, st, po, ch, fk, od, op, v0, v1, v2, p0, p1, p2, nu, R, A, S, sv, ro) (nI p) := by
  have hi : vp_in (nI p) 14 := vp_in_nI hp (by omega)
  unfold wpX_canGoToTarget
  dsimp only
  rw [nI_clamp (by omega : p < 2 ^ 31)]
  exact ⟨hi, br_c (fun z => h0 (Or.inl z)) (fun z => ⟨hi, br_c (fun z2 => h0 (Or.inr z2)) (fun z2 => h1 (fun y => y.elim z z2))⟩)⟩
theorem ac_1ne : ¬ (1 : Int32) = 0 := by decide
theorem ac_wG2 {post : Int32 → SX → Prop} {R A S : Nat → Int32} {p : Nat} (hp : p < 14) (hc : c ≤ 14) (a b : Int32) (f : Bool)
    (h : post (ac_bI (f || (ac_g2 op nu c p a b (R, A, S)).2)) (nI c, st, po, ch, fk, od, op, v0, v1, v2, p0, p1, p2, nu, (ac_g2 op nu c p a b (R, A, S)).1.1, (ac_g2 op nu c p a b (R, A, S)).1.2.1, (ac_g2 op nu c p a b (R, A, S)).1.2.2, sv, ro)) : wX_goOnFrom_56 post (nI p) a b (ac_bI f) (nI c) st po ch fk od op v0 v1 v2 p0 p1 p2 nu R A S sv ro := by
  have hi : vp_in (nI p) 14 := vp_in_nI hp (by omega)
  unfold wX_goOnFrom_56
  rw [nI_clamp (by omega : p < 2 ^ 31)]
  unfold ac_g2 at h
  by_cases h5 : op p = 5 ∨ op p = 6
  · refine ac_wTgt hp (fun _ => br_f ac_1ne ⟨hi, ?_⟩) (fun z => absurd h5 z)
    refine ac_wPos _ (fun y => br_f ac_1ne ⟨hi, ?_⟩) (fun y => br_t rfl ⟨ac_narB f, ?_⟩)
    · rw [if_pos ⟨h5, y⟩] at h
      obtain ⟨t1, t2⟩ := ac_tgt hc y.1 y.2
      rw [t2]
      rw [t2] at h
      rw [nI_clamp (by omega)] at h
      refine ac_wArr (by omega) a b ?_
      dsimp only
      cases e : (ac_arr (R, A, S) (nu p).toNatClampNeg a b).2
      · rw [e, Bool.or_false] at h
        exact br_t rfl ⟨ac_narB f, h⟩
      · rw [e, Bool.or_true] at h
        exact br_f ac_1ne h
    · rw [if_neg (fun z => y z.2)] at h
      dsimp only at h
      rw [Bool.or_false] at h
      exact h
  · refine ac_wTgt hp (fun z => absurd z h5) (fun _ => br_t rfl ⟨ac_narB f, ?_⟩)
    rw [if_neg (fun z => h5 z.1)] at h
    dsimp only at h
    rw [Bool.or_false] at h
    exact h
theorem ac_p1 {p : Nat} (hp : p < 14) (hc : c ≤ 14) : (¬ nI (p + 1) < 0 ∧ ¬ nI c ≤ nI (p + 1)) ↔ p + 1 < c := by
  rw [nI_leI (by omega) (by omega)]
  constructor
  · intro z; omega
  · intro z; exact ⟨nI_pos (by omega), by omega⟩
theorem ac_wGo {post : Int32 → SX → Prop} {R A S : Nat → Int32} (hop : ac_In 8 op) (hv0 : ac_In 4 v0) (hv1 : ac_In 4 v1) (hp0 : ac_In 5 p0) (hp1 : ac_In 5 p1) {p : Nat} (hp : p < 14) (hc : c ≤ 14)
    (h : post (ac_bI (ac_go op v0 v1 p0 p1 nu c p (R, A, S)).2) (nI c, st, po, ch, fk, od, op, v0, v1, v2, p0, p1, p2, nu, (ac_go op v0 v1 p0 p1 nu c p (R, A, S)).1.1, (ac_go op v0 v1 p0 p1 nu c p (R, A, S)).1.2.1, (ac_go op v0 v1 p0 p1 nu c p (R, A, S)).1.2.2, sv, ro)) : wpX_goOnFrom post (nI c, st, po, ch, fk, od, op, v0, v1, v2, p0, p1, p2, nu, R, A, S, sv, ro) (nI p) := by
  have hi : vp_in (nI p) 14 := vp_in_nI hp (by omega)
  unfold wpX_goOnFrom
  dsimp only
  rw [nI_clamp (by omega : p < 2 ^ 31), nI_1 p]
  unfold ac_go at h
  refine ⟨hi, ac_wAft hop hv0 hv1 hp0 hp1 hp _ ⟨hi, ac_wAft hop hv0 hv1 hp0 hp1 hp _ ?_⟩⟩
  unfold ac_g1 at h
  refine ac_wNxt hp (fun h6 => br_f ac_1ne ?_) (fun h6 => br_t rfl ?_)
  · refine ac_wPos _ (fun y => br_f ac_1ne ?_) (fun y => br_t rfl ?_)
    · have e : op p ≠ 6 ∧ op p ≠ 7 ∧ p + 1 < c := ⟨h6.1, h6.2, (ac_p1 hp hc).mp y⟩
      rw [if_pos e] at h
      refine ac_wArr (by omega) _ _ ?_
      exact ac_wG2 hp hc _ _ _ h
    · have e : ¬ (op p ≠ 6 ∧ op p ≠ 7 ∧ p + 1 < c) := fun z => y ((ac_p1 hp hc).mpr z.2.2)
      rw [if_neg e] at h
      exact ac_wG2 hp hc _ _ false h
  · have e : ¬ (op p ≠ 6 ∧ op p ≠ 7 ∧ p + 1 < c) := fun z => h6 ⟨z.1, z.2.1⟩
    rw [if_neg e] at h
    exact ac_wG2 hp hc _ _ false h
theorem ac_wPs {post : SX → Prop} {J41 : Int32 → Int32 → Int32 → Int32 → Int32 → Int32 → Int32 → Int32 → (Nat → Int32) → (Nat → Int32) → (Nat → Int32) → (Nat → Int32) → (Nat → Int32) → (Nat → Int32) → (Nat → Int32) → (Nat → Int32) → (Nat → Int32) → (Nat → Int32) → (Nat → Int32) → (Nat → Int32) → (Nat → Int32) → Prop} {x2 : Int32}
    (hop : ac_In 8 op) (hv0 : ac_In 4 v0) (hv1 : ac_In 4 v1) (hp0 : ac_In 5 p0) (hp1 : ac_In 5 p1) (hc : c ≤ 14) :
    ∀ (d p : Nat) (R A S : Nat → Int32) (f : Bool) (n : Nat), p + d = c → d < n → J41 (ac_bI (ac_ps op v0 v1 p0 p1 nu c d p (R, A, S) f).2) (x2 + 1) (nI c) st po ch fk od op v0 v1 v2 p0 p1 p2 nu ((ac_ps op v0 v1 p0 p1 nu c d p (R, A, S) f).1.1) ((ac_ps op v0 v1 p0 p1 nu c d p (R, A, S) f).1.2.1) ((ac_ps op v0 v1 p0 p1 nu c d p (R, A, S) f).1.2.2) sv ro →
      wX_followAllWalks_56 post J41 x2 n (ac_bI f) (nI p) (nI c) st po ch fk od op v0 v1 v2 p0 p1 p2 nu R A S sv ro := by
  intro d
  induction d with
  | zero =>
    intro p R A S f n hd hn h
    cases n with
    | zero => omega
    | succ n =>
      have e : nI c ≤ nI p := nI_le (by omega) (by omega)
      exact br_t e (nm_e h)
  | succ d ih =>
    intro p R A S f n hd hn h
    cases n with
    | zero => omega
    | succ n =>
      have e : ¬ nI c ≤ nI p := nI_ge (by omega) (by omega)
      have hi : vp_in (nI p) 14 := vp_in_nI (by omega) (by omega)
      have hcl : (nI p).toNatClampNeg = p := nI_clamp (by omega)
      unfold ac_ps at h
      refine br_f e ⟨hi, ?_⟩
      by_cases h0 : R p = 0
      · rw [if_pos h0] at h
        exact br_t (by rw [hcl]; exact h0) (nm_r (nI_1 p) (ih (p + 1) R A S f n (by omega) (by omega) h))
      · rw [if_neg h0] at h
        refine br_f (by rw [hcl]; exact h0) (ac_wGo hop hv0 hv1 hp0 hp1 (by omega) hc ?_)
        dsimp only
        cases e2 : (ac_go op v0 v1 p0 p1 nu c p (R, A, S)).2
        · rw [e2, Bool.or_false] at h
          exact br_t rfl (nm_r (nI_1 p) (ih (p + 1) _ _ _ f n (by omega) (by omega) h))
        · rw [e2, Bool.or_true] at h
          exact br_f ac_1ne (nm_r (nI_1 p) (ih (p + 1) _ _ _ true n (by omega) (by omega) h))
theorem ac_wIt {post : SX → Prop} (hop : ac_In 8 op) (hv0 : ac_In 4 v0) (hv1 : ac_In 4 v1) (hp0 : ac_In 5 p0) (hp1 : ac_In 5 p1) (hc : c ≤ 14) :
    ∀ (m k n : Nat) (R A S : Nat → Int32) (f : Bool), m + k = 575 → m < n → post (nI c, st, po, ch, fk, od, op, v0, v1, v2, p0, p1, p2, nu, (if f = true then ac_it (ac_F op v0 v1 p0 p1 nu c) m (R, A, S) else (R, A, S)).1, (if f = true then ac_it (ac_F op v0 v1 p0 p1 nu c) m (R, A, S) else (R, A, S)).2.1, (if f = true then ac_it (ac_F op v0 v1 p0 p1 nu c) m (R, A, S) else (R, A, S)).2.2, sv, ro) →
      wX_followAllWalks_41 post n (ac_bI f) (nI k) (nI c) st po ch fk od op v0 v1 v2 p0 p1 p2 nu R A S sv ro := by
  intro m
  induction m with
  | zero =>
    intro k n R A S f hm hn h
    cases n with
    | zero => omega
    | succ n =>
      cases f with
      | false => exact br_t rfl h
      | true =>
        have e : (575 : Int32) ≤ nI k := nI_le (a := 575) (by omega) (by omega)
        exact br_f ac_1ne (br_t e h)
  | succ m ih =>
    intro k n R A S f hm hn h
    cases n with
    | zero => omega
    | succ n =>
      cases f with
      | false => exact br_t rfl h
      | true =>
        have e : ¬ (575 : Int32) ≤ nI k := nI_ge (b := 575) (by omega) (by omega)
        refine br_f ac_1ne (br_f e ⟨c + 1, ac_wPs hop hv0 hv1 hp0 hp1 hc c 0 R A S false (c + 1) (by omega) (by omega) ?_⟩)
        rw [nI_1 k]
        refine ih (k + 1) n _ _ _ _ (by omega) (by omega) ?_
        rw [if_pos rfl] at h
        unfold ac_it at h
        exact h
theorem ac_wRs {A S : Nat → Int32} : ∀ (d x : Nat) (R : Nat → Int32), x + d = 14 → (∀ i, i < x → R i = 0) →
    ∃ R' : Nat → Int32, (∀ i, i < 14 → R' i = 0) ∧ ∀ (post : SX → Prop) (n : Nat), wX_followAllWalks_2 post (nI c) st po ch fk od (n + 1) (nI 14) op v0 v1 v2 p0 p1 p2 nu R' A S sv ro → wX_followAllWalks_2 post (nI c) st po ch fk od (n + 1 + d) (nI x) op v0 v1 v2 p0 p1 p2 nu R A S sv ro := by
  intro d
  induction d with
  | zero =>
    intro x R hd hR
    have e : x = 14 := by omega
    subst e
    exact ⟨R, hR, fun post n h => h⟩
  | succ d ih =>
    intro x R hd hR
    obtain ⟨R', h1, h2⟩ := ih (x + 1) (upd R x 0) (by omega) (by
      intro i hi
      by_cases e : i = x
      · rw [e, pk_us]
      · rw [pk_un e]; exact hR i (by omega))
    refine ⟨R', h1, fun post n h => ?_⟩
    have e : ¬ (14 : Int32) ≤ nI x := nI_ge (b := 14) (by omega) (by omega)
    have hcl : (nI x).toNatClampNeg = x := nI_clamp (by omega)
    exact br_f e ⟨vp_in_nI (by omega) (by omega), nm_r (e' := upd R x 0) (by rw [hcl, ac_nar0]) (nm_r (nI_1 x) (h2 post n h))⟩
theorem ac_wFo {R A S : Nat → Int32} (hop : ac_In 8 op) (hv0 : ac_In 4 v0) (hv1 : ac_In 4 v1) (hp0 : ac_In 5 p0) (hp1 : ac_In 5 p1) (hc : c ≤ 14) :
    ∃ s0 : ac_T, ac_Ini c s0 ∧ ∀ post : SX → Prop, post (nI c, st, po, ch, fk, od, op, v0, v1, v2, p0, p1, p2, nu, (ac_it (ac_F op v0 v1 p0 p1 nu c) 575 s0).1, (ac_it (ac_F op v0 v1 p0 p1 nu c) 575 s0).2.1, (ac_it (ac_F op v0 v1 p0 p1 nu c) 575 s0).2.2, sv, ro) → wpX_followAllWalks post (nI c, st, po, ch, fk, od, op, v0, v1, v2, p0, p1, p2, nu, R, A, S, sv, ro) := by
  obtain ⟨R', h1, h2⟩ := ac_wRs (c := c) (st := st) (po := po) (ch := ch) (fk := fk) (od := od) (op := op) (v0 := v0) (v1 := v1) (v2 := v2) (p0 := p0) (p1 := p1) (p2 := p2) (nu := nu) (sv := sv) (ro := ro) (A := A) (S := S) 14 0 R (by omega) (by intro i hi; omega)
  have e14 : (14 : Int32) ≤ nI 14 := by decide
  rcases Nat.eq_zero_or_pos c with z | z
  · subst z
    refine ⟨(R', A, S), ⟨fun i hi => by rw [if_neg (by omega)]; exact h1 i hi, fun z => absurd z (by omega)⟩, fun post h => ?_⟩
    rw [ac_itF0] at h
    exact ⟨_, h2 post 0 (br_t e14 (br_t rfl h))⟩
  · refine ⟨(upd R' 0 1, upd A 0 0, upd S 0 0), ⟨fun i hi => ?_, fun _ => ⟨pk_us (f := A) (k := 0) (x := 0), pk_us (f := S) (k := 0) (x := 0)⟩⟩, fun post h => ?_⟩
    · by_cases e : i = 0
      · rw [if_pos ⟨e, z⟩, e]; exact pk_us (f := R') (k := 0) (x := 1)
      · rw [if_neg (fun y => e y.1)]
        show upd R' 0 1 i = 0
        rw [pk_un e]; exact h1 i hi
    · refine ⟨_, h2 post 0 (br_t e14 (br_f (nI_ne0 z (by omega)) ?_))⟩
      refine ac_wArr (q := 0) (by omega) 0 0 ?_
      have e : ac_arr (R', A, S) 0 0 0 = ((upd R' 0 1, upd A 0 0, upd S 0 0), true) := if_pos (h1 0 (by omega))
      rw [e]
      exact ⟨576, ac_wIt hop hv0 hv1 hp0 hp1 hc 575 0 576 _ _ _ true (by omega) (by omega) h⟩
end
