def ac_Run (B : Nat) (st po ch fk : Int32) (od : Nat) (ay fo bi sd : Int32) (ro la : Nat → Int32) : Prop :=
  (st = 0 → od = 0) ∧ (st ≠ 0 → sd = nI od ∧ od ≤ B ∧ ∀ j, j < 8 → j < od → ro ((od - 1 - j) % 8) = la j) ∧ (st = 1 → ay = po ∧ bi = ch ∧ fo = fk)
def ac_Prg (op v0 v1 v2 p0 p1 p2 : Nat → Int32) : Prop := ac_In 8 op ∧ ac_In 4 v0 ∧ ac_In 4 v1 ∧ ac_In 4 v2 ∧ ac_In 5 p0 ∧ ac_In 5 p1 ∧ ac_In 5 p2
def ac_Rel (B : Nat) (u : SX) (v : SY) : Prop := ∃ (c : Nat) (st po ch fk : Int32) (od : Nat) (op v0 v1 v2 p0 p1 p2 nu R A S sv ro : Nat → Int32) (ay fo bi sd : Int32) (nv C W O la : Nat → Int32) (s0 : ac_T),
  u = (nI c, st, po, ch, fk, nI od, op, v0, v1, v2, p0, p1, p2, nu, R, A, S, sv, ro) ∧ v = (nI c, st, ay, fo, bi, sd, op, v0, v1, v2, p0, p1, p2, nv, C, W, O, sv, la) ∧ c ≤ 14 ∧ (∀ i, op i ≠ 7 → nv i = nu i) ∧ ac_Prg op v0 v1 v2 p0 p1 p2 ∧ ac_Ini c s0 ∧ (R, A, S) = ac_it (ac_F op v0 v1 p0 p1 nu c) 575 s0 ∧ ac_Run B st po ch fk od ay fo bi sd ro la
theorem ac_up {B B' : Nat} {u : SX} {v : SY} (hB : B ≤ B') (h : ac_Rel B u v) : ac_Rel B' u v := by
  obtain ⟨c, st, po, ch, fk, od, op, v0, v1, v2, p0, p1, p2, nu, R, A, S, sv, ro, ay, fo, bi, sd, nv, C, W, O, la, s0, eu, ev, hc, hnv, hP, hI, hE, r1, r2, r3⟩ := h
  refine ⟨c, st, po, ch, fk, od, op, v0, v1, v2, p0, p1, p2, nu, R, A, S, sv, ro, ay, fo, bi, sd, nv, C, W, O, la, s0, eu, ev, hc, hnv, hP, hI, hE, r1, fun z => ?_, r3⟩
  obtain ⟨a1, a2, a3⟩ := r2 z
  exact ⟨a1, by omega, a3⟩
theorem ac_14lt {c : Nat} (hc : c < 14) : nI c < 14 := nI_lt (b := 14) hc (by omega)
theorem ac_app {B : Nat} {u : SX} {v : SY} (I : ac_Rel B u v) (o vs pl n n' : Int32) (hn' : o ≠ 7 → n' = n) (ho : ∃ j, j < 8 ∧ o = nI j) (h0 : ∃ j, j < 5 ∧ pl &&& 7 = nI j) (h1 : ∃ j, j < 5 ∧ (pl >>> ((3 : Int32) &&& 31)) &&& 7 = nI j) (h2 : ∃ j, j < 5 ∧ (pl >>> ((6 : Int32) &&& 31)) &&& 7 = nI j) :
    ∃ (r : Int32) (u' : SX) (v' : SY), ac_Rel B u' v' ∧ (∀ post : Int32 → SX → Prop, post r u' → wpX_append post u o vs pl n) ∧ (∀ post : Int32 → SY → Prop, post r v' → wpY_append post v o vs pl n') := by
  have I' := I
  obtain ⟨c, st, po, ch, fk, od, op, v0, v1, v2, p0, p1, p2, nu, R, A, S, sv, ro, ay, fo, bi, sd, nv, C, W, O, la, s0, rfl, rfl, hc, hnv, ⟨hop, hv0, hv1, hv2, hp0, hp1, hp2⟩, hI, hE, hR⟩ := I
  by_cases h14 : c < 14
  · obtain ⟨jo, lo, eo⟩ := ho
    obtain ⟨j0, l0, e0⟩ := h0
    obtain ⟨j1, l1, e1⟩ := h1
    obtain ⟨j2, l2, e2⟩ := h2
    obtain ⟨k0, m0, f0⟩ := pk_andE vs (m := 3) 2 (by decide)
    obtain ⟨k1, m1, f1⟩ := pk_andE (vs >>> ((2 : Int32) &&& 31)) (m := 3) 2 (by decide)
    obtain ⟨k2, m2, f2⟩ := pk_andE (vs >>> ((4 : Int32) &&& 31)) (m := 3) 2 (by decide)
    have go := ac_InU hop (k := c) lo eo
    have gv0 := ac_InU hv0 (k := c) m0 f0
    have gv1 := ac_InU hv1 (k := c) m1 f1
    have gv2 := ac_InU hv2 (k := c) m2 f2
    have gp0 := ac_InU hp0 (k := c) l0 e0
    have gp1 := ac_InU hp1 (k := c) l1 e1
    have gp2 := ac_InU hp2 (k := c) l2 e2
    have hcl : (nI c).toNatClampNeg = c := nI_clamp (by omega)
    have hi : vp_in (nI c) 14 := vp_in_nI h14 (by omega)
    have hnv' : ∀ i, upd op c o i ≠ 7 → upd nv c n' i = upd nu c n i := by
      intro i hi7
      by_cases e : i = c
      · subst e
        rw [pk_us] at hi7
        rw [pk_us, pk_us]; exact hn' hi7
      · rw [pk_un e] at hi7
        rw [pk_un e, pk_un e]; exact hnv i hi7
    obtain ⟨s1, hI1, H⟩ := ac_wFo (c := c + 1) (st := 0) (po := po) (ch := ch) (fk := fk) (od := 0) (v2 := upd v2 c ((vs >>> ((4 : Int32) &&& 31)) &&& 3)) (p2 := upd p2 c ((pl >>> ((6 : Int32) &&& 31)) &&& 7)) (nu := upd nu c n) (sv := sv) (ro := ro) (R := R) (A := A) (S := S) go gv0 gv1 gp0 gp1 (by omega)
    refine ⟨nI c, _, _, ⟨c + 1, 0, po, ch, fk, 0, _, _, _, upd v2 c ((vs >>> ((4 : Int32) &&& 31)) &&& 3), _, _, upd p2 c ((pl >>> ((6 : Int32) &&& 31)) &&& 7), upd nu c n, _, _, _, sv, ro, ay, fo, bi, sd, upd nv c n', C, W, O, la, s1, rfl, rfl, by omega, hnv', ⟨go, gv0, gv1, gv2, gp0, gp1, gp2⟩, hI1, rfl, fun _ => rfl, fun z => absurd rfl z, fun z => absurd z (by decide)⟩, ?_, ?_⟩
    · intro post h
      unfold wpX_append
      dsimp only
      rw [hcl]
      refine br_t (ac_14lt h14) ⟨hi, nm_e ⟨hi, nm_e ⟨hi, nm_e ⟨hi, nm_e ⟨hi, nm_e ⟨hi, nm_e ⟨hi, nm_e ⟨hi, nm_e (nm_r (nI_1 c) ?_)⟩⟩⟩⟩⟩⟩⟩⟩
      unfold wpX_endRun
      dsimp only
      exact H _ h
    · intro post h
      unfold wpY_append
      dsimp only
      rw [hcl]
      refine br_t (ac_14lt h14) ⟨hi, nm_e ⟨hi, nm_e ⟨hi, nm_e ⟨hi, nm_e ⟨hi, nm_e ⟨hi, nm_e ⟨hi, nm_e ⟨hi, nm_e (nm_r (nI_1 c) ?_)⟩⟩⟩⟩⟩⟩⟩⟩
      rw [nI_pred]
      exact h
  · have e : ¬ nI c < 14 := nI_nlt (b := 14) (by omega) (by omega)
    exact ⟨-2, _, _, I', fun post h => br_f e h, fun post h => br_f e h⟩
theorem ac_drp {B : Nat} {u : SX} {v : SY} (I : ac_Rel B u v) :
    ∃ (r : Int32) (u' : SX) (v' : SY), ac_Rel B u' v' ∧ (∀ post : Int32 → SX → Prop, post r u' → wpX_drop post u) ∧ (∀ post : Int32 → SY → Prop, post r v' → wpY_drop post v) := by
  have I' := I
  obtain ⟨c, st, po, ch, fk, od, op, v0, v1, v2, p0, p1, p2, nu, R, A, S, sv, ro, ay, fo, bi, sd, nv, C, W, O, la, s0, rfl, rfl, hc, hnv, ⟨hop, hv0, hv1, hv2, hp0, hp1, hp2⟩, hI, hE, hR⟩ := I
  cases c with
  | zero => exact ⟨-1, _, _, I', fun post h => br_t rfl h, fun post h => br_t rfl h⟩
  | succ c =>
    have e : ¬ nI (c + 1) = 0 := nI_ne0 (by omega) (by omega)
    obtain ⟨s1, hI1, H⟩ := ac_wFo (c := c) (st := 0) (po := po) (ch := ch) (fk := fk) (od := 0) (v2 := v2) (p2 := p2) (nu := nu) (sv := sv) (ro := ro) (R := R) (A := A) (S := S) hop hv0 hv1 hp0 hp1 (by omega)
    refine ⟨nI c, _, _, ⟨c, 0, po, ch, fk, 0, op, v0, v1, v2, p0, p1, p2, nu, _, _, _, sv, ro, ay, fo, bi, sd, nv, C, W, O, la, s1, rfl, rfl, by omega, hnv, ⟨hop, hv0, hv1, hv2, hp0, hp1, hp2⟩, hI1, rfl, fun _ => rfl, fun z => absurd rfl z, fun z => absurd z (by decide)⟩, ?_, ?_⟩
    · intro post h
      unfold wpX_drop
      dsimp only
      refine br_f e (nm_r (nI_pred c) ?_)
      unfold wpX_endRun
      dsimp only
      exact H _ h
    · intro post h
      exact br_f e (nm_r (nI_pred c) h)
/-! what the questions answer -/
section
variable {c : Nat} {st po ch fk od : Int32} {op v0 v1 v2 p0 p1 p2 nu sv ro R A S : Nat → Int32}
theorem ac_inC {j : Nat} (hj : j < c) (hc : c ≤ 14) : ¬ nI j < 0 ∧ ¬ nI c ≤ nI j := ⟨nI_pos (by omega), nI_ge hj (by omega)⟩
theorem ac_wReO {post : Int32 → Prop} {x : Int32} (hx : ¬ (¬ x < 0 ∧ ¬ nI c ≤ x)) (h : post 0) : wpX_reached post (nI c, st, po, ch, fk, od, op, v0, v1, v2, p0, p1, p2, nu, R, A, S, sv, ro) x := by
  unfold wpX_reached
  exact ac_wPos x (fun z => absurd z hx) (fun _ => br_t rfl h)
theorem ac_wRe0 {post : Int32 → Prop} {j : Nat} (hc : c ≤ 14) (hj : j < c) (hR : R j = 0) (h : post 0) : wpX_reached post (nI c, st, po, ch, fk, od, op, v0, v1, v2, p0, p1, p2, nu, R, A, S, sv, ro) (nI j) := by
  unfold wpX_reached
  dsimp only
  rw [nI_clamp (by omega : j < 2 ^ 31)]
  exact ac_wPos _ (fun _ => br_f ac_1ne ⟨vp_in_nI (by omega) (by omega), br_t hR h⟩) (fun z => absurd (ac_inC hj hc) z)
theorem ac_wRe1 {post : Int32 → Prop} {j : Nat} (hc : c ≤ 14) (hj : j < c) (hR : R j ≠ 0) (h : post 1) : wpX_reached post (nI c, st, po, ch, fk, od, op, v0, v1, v2, p0, p1, p2, nu, R, A, S, sv, ro) (nI j) := by
  unfold wpX_reached
  dsimp only
  rw [nI_clamp (by omega : j < 2 ^ 31)]
  exact ac_wPos _ (fun _ => br_f ac_1ne ⟨vp_in_nI (by omega) (by omega), br_f hR h⟩) (fun z => absurd (ac_inC hj hc) z)
end
abbrev ac_lv (op nu : Nat → Int32) (c p : Nat) : Prop := (op p ≠ 6 ∧ op p ≠ 7 ∧ ¬ p + 1 < c) ∨ ((op p = 5 ∨ op p = 6) ∧ ¬ (¬ nu p < 0 ∧ ¬ nI c ≤ nu p))
def ac_sum (f1 f2 f3 : Bool) : Int32 := ((if f1 = true then 1 else 0) + (if f2 = true then 2 else 0)) + (if f3 = true then 4 else 0)
def ac_d1 (op v1 p1 A : Nat → Int32) (p : Nat) : Bool := decide ((op p = 1 ∨ op p = 3) ∧ bt (A p) (4 * ac_n p1 p + ac_n v1 p) = false)
def ac_d2 (op v2 p2 A : Nat → Int32) (p : Nat) : Bool := decide (op p = 1 ∧ bt (A p) (4 * ac_n p2 p + ac_n v2 p) = false)
def ac_fv (op v1 v2 p1 p2 nu R A : Nat → Int32) (c p : Nat) : Int32 := if R p = 0 then 0 else ac_sum (ac_d1 op v1 p1 A p) (ac_d2 op v2 p2 A p) (decide (ac_lv op nu c p))
section
variable {c : Nat} {st po ch fk od : Int32} {op v0 v1 v2 p0 p1 p2 nu sv ro R A S : Nat → Int32}
theorem ac_wLv {post : Int32 → Prop} {p : Nat} (hc : c ≤ 14) (hp : p < c) (h : post (ac_bI (decide (ac_lv op nu c p)))) : wpX_canLeave post (nI c, st, po, ch, fk, od, op, v0, v1, v2, p0, p1, p2, nu, R, A, S, sv, ro) (nI p) := by
  have hi : vp_in (nI p) 14 := vp_in_nI (by omega) (by omega)
  unfold wpX_canLeave
  dsimp only
  rw [nI_1 p]
  have k : ¬ (op p ≠ 6 ∧ op p ≠ 7 ∧ ¬ p + 1 < c) → wX_canLeave_18 post (nI p) (nI c) st po ch fk od op v0 v1 v2 p0 p1 p2 nu R A S sv ro := by
    intro z
    unfold wX_canLeave_18
    rw [nI_clamp (by omega : p < 2 ^ 31)]
    refine ac_wTgt (by omega) (fun h5 => br_f ac_1ne ⟨hi, ac_wPos _ (fun y => br_f ac_1ne ?_) (fun y => br_t rfl ?_)⟩) (fun h5 => br_t rfl ?_)
    · rw [decide_eq_false (fun w => w.elim z (fun w2 => w2.2 y))] at h; exact h
    · rw [decide_eq_true (Or.inr ⟨h5, y⟩)] at h; exact h
    · rw [decide_eq_false (fun w => w.elim z (fun w2 => h5 w2.1))] at h; exact h
  refine ac_wNxt (by omega) (fun h6 => br_f ac_1ne (ac_wPos _ (fun y => br_f ac_1ne ?_) (fun y => br_t rfl ?_))) (fun h6 => br_t rfl ?_)
  · exact k (fun z => z.2.2 ((ac_p1 (by omega) hc).mp y))
  · rw [ac_p1 (by omega) hc] at y
    rw [decide_eq_true (Or.inl ⟨h6.1, h6.2, y⟩)] at h; exact h
  · exact k (fun z => h6 ⟨z.1, z.2.1⟩)
theorem ac_wAl {post : Int32 → Prop} {p : Nat} (hp : p < 14) {x y : Int32} {k : Nat} (hk : k < 32) (e : 4 * x + y = nI k) (h : post (ac_bI (bt (A p) k))) : wpX_alwaysCarries post (nI c, st, po, ch, fk, od, op, v0, v1, v2, p0, p1, p2, nu, R, A, S, sv, ro) (nI p) x y := by
  unfold wpX_alwaysCarries
  dsimp only
  rw [nI_clamp (by omega : p < 2 ^ 31), e]
  refine ⟨vp_in_nI hp (by omega), br_c (fun z => ?_) (fun z => ?_)⟩
  · rw [(ac_ub (A p) hk).mp z] at h; exact h
  · rw [Bool.eq_false_iff.mpr (fun w => z ((ac_ub (A p) hk).mpr w))] at h; exact h
theorem ac_4k {x y : Nat → Int32} (hx : ac_In 5 x) (hy : ac_In 4 y) (p : Nat) : 4 * ac_n x p + ac_n y p < 20 ∧ 4 * x p + y p = nI (4 * ac_n x p + ac_n y p) := by
  obtain ⟨l1, e1⟩ := ac_InN hx (by omega) p
  obtain ⟨l2, e2⟩ := ac_InN hy (by omega) p
  refine ⟨by omega, ?_⟩
  rw [← nI_add, ← pk_mul, ← e1, ← e2]; rfl
theorem ac_wF64 {post : Int32 → Prop} {p : Nat} (hp : p < 14) (hv2 : ac_In 4 v2) (hp2 : ac_In 5 p2) (z : Int32) (h : post (z + if ac_d2 op v2 p2 A p = true then 2 else 0)) : wX_faults_64 post (nI p) (op p) z (nI c) st po ch fk od op v0 v1 v2 p0 p1 p2 nu R A S sv ro := by
  have hi : vp_in (nI p) 14 := vp_in_nI hp (by omega)
  obtain ⟨l, e⟩ := ac_4k hp2 hv2 p
  unfold wX_faults_64
  rw [nI_clamp (by omega : p < 2 ^ 31)]
  unfold ac_d2 at h
  refine br_c (fun h1 => ⟨hi, hi, ac_wAl hp (by omega) e ?_⟩) (fun h1 => ?_)
  · cases b : bt (A p) (4 * ac_n p2 p + ac_n v2 p)
    · rw [decide_eq_true ⟨h1, b⟩, if_pos rfl] at h
      exact br_t rfl (nm_e h)
    · rw [decide_eq_false (fun w => by rw [b] at w; exact nomatch w.2), if_neg (fun w => nomatch w), Int32.add_zero] at h
      exact br_f ac_1ne h
  · rw [decide_eq_false (fun w => h1 w.1), if_neg (fun w => nomatch w), Int32.add_zero] at h
    exact h
theorem ac_wF30 {post : Int32 → Prop} {p : Nat} (hp : p < 14) (hv1 : ac_In 4 v1) (hp1 : ac_In 5 p1) (hv2 : ac_In 4 v2) (hp2 : ac_In 5 p2) (z : Int32) (h : post ((z + if ac_d1 op v1 p1 A p = true then 1 else 0) + if ac_d2 op v2 p2 A p = true then 2 else 0)) : wX_faults_30 post (nI p) (op p) z (nI c) st po ch fk od op v0 v1 v2 p0 p1 p2 nu R A S sv ro := by
  have hi : vp_in (nI p) 14 := vp_in_nI hp (by omega)
  obtain ⟨l, e⟩ := ac_4k hp1 hv1 p
  have k : op p = 1 ∨ op p = 3 → wX_faults_41 post (nI p) (op p) z (nI c) st po ch fk od op v0 v1 v2 p0 p1 p2 nu R A S sv ro := by
    intro h1
    unfold wX_faults_41
    rw [nI_clamp (by omega : p < 2 ^ 31)]
    refine ⟨hi, hi, ac_wAl hp (by omega) e ?_⟩
    unfold ac_d1 at h
    cases b : bt (A p) (4 * ac_n p1 p + ac_n v1 p)
    · rw [decide_eq_true ⟨h1, b⟩, if_pos rfl] at h
      exact br_t rfl (nm_e (ac_wF64 hp hv2 hp2 _ h))
    · rw [decide_eq_false (fun w => by rw [b] at w; exact nomatch w.2), if_neg (fun w => nomatch w), Int32.add_zero] at h
      exact br_f ac_1ne (ac_wF64 hp hv2 hp2 _ h)
  unfold wX_faults_30
  refine br_c (fun h1 => k (Or.inl h1)) (fun h1 => br_c (fun h3 => k (Or.inr h3)) (fun h3 => ac_wF64 hp hv2 hp2 _ ?_))
  unfold ac_d1 at h
  rw [decide_eq_false (fun w => w.1.elim h1 h3), if_neg (fun w => nomatch w), Int32.add_zero] at h
  exact h
theorem ac_wFa {post : Int32 → Prop} {p : Nat} (hc : c ≤ 14) (hp : p < c) (hv1 : ac_In 4 v1) (hp1 : ac_In 5 p1) (hv2 : ac_In 4 v2) (hp2 : ac_In 5 p2) (h : post (ac_fv op v1 v2 p1 p2 nu R A c p)) : wpX_faults post (nI c, st, po, ch, fk, od, op, v0, v1, v2, p0, p1, p2, nu, R, A, S, sv, ro) (nI p) := by
  unfold wpX_faults
  dsimp only
  unfold ac_fv at h
  by_cases h0 : R p = 0
  · rw [if_pos h0] at h
    exact ac_wRe0 hc hp h0 (br_t rfl h)
  · rw [if_neg h0] at h
    refine ac_wRe1 hc hp h0 (br_f ac_1ne ⟨vp_in_nI (by omega) (by omega), ?_⟩)
    rw [nI_clamp (by omega : p < 2 ^ 31)]
    refine nm_e (ac_wLv hc hp ?_)
    cases e : decide (ac_lv op nu c p)
    · rw [e] at h
      refine br_t rfl (ac_wF30 (by omega) hv1 hp1 hv2 hp2 0 ?_)
      revert h
      cases ac_d1 op v1 p1 A p <;> cases ac_d2 op v2 p2 A p <;> exact id
    · rw [e] at h
      refine br_f ac_1ne (ac_wF30 (by omega) hv1 hp1 hv2 hp2 4 ?_)
      revert h
      cases ac_d1 op v1 p1 A p <;> cases ac_d2 op v2 p2 A p <;> exact id
theorem ac_wFaO {post : Int32 → Prop} {x : Int32} (hx : ¬ (¬ x < 0 ∧ ¬ nI c ≤ x)) (h : post 0) : wpX_faults post (nI c, st, po, ch, fk, od, op, v0, v1, v2, p0, p1, p2, nu, R, A, S, sv, ro) x := by
  unfold wpX_faults
  exact ac_wReO hx (br_t rfl h)
end
