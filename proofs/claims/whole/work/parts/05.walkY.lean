/-- the reference's collected sets against the picture, at every position of the program -/
def ac_Sim (c : Nat) (s : ac_T) (C W O : Nat → Int32) : Prop := ∀ i, i < c → (s.1 i = 0 ∧ C i = 0 ∧ W i = 0 ∧ O i = 0) ∨ (s.1 i = 1 ∧ C i = 1 ∧ W i = s.2.2 i ∧ O i = s.2.1 i ^^^ 1048575 ∧ ac_lo (s.2.1 i) ∧ ac_lo (s.2.2 i))
theorem ac_yst {r z : Int32} {i : Nat} {g : Nat → Bool} (hi : i < 20) (hr : ∀ b, b < 32 → bt r b = (decide (b < i) && g b)) (hz : ∀ j, j < 32 → bt z j = (decide (j = 0) && g i)) :
    ∀ b, b < 32 → bt (r ||| (z <<< (nI i &&& 31))) b = (decide (b < i + 1) && g b) := by
  intro b hb
  rw [b_or, hr b hb, b_shl i (by omega) _ hb, hz (b - i) (by omega)]
  by_cases h1 : b < i
  · have h2 : b < i + 1 := by omega
    have h3 : ¬ i ≤ b := by omega
    simp [h1, h2, h3]
  · by_cases h2 : b = i
    · subst h2; simp
    · have h3 : ¬ b < i + 1 := by omega
      have h4 : ¬ b - i = 0 := by omega
      simp [h1, h3, h4]
section
variable {c : Nat} {dg ay fo bi sd : Int32} {op v0 v1 v2 p0 p1 p2 nv va la : Nat → Int32}
theorem ac_yAl {post : Int32 → Prop} {C W O : Nat → Int32} (hv0 : ac_In 4 v0) (hv1 : ac_In 4 v1) (hp0 : ac_In 5 p0) (hp1 : ac_In 5 p1) {p : Nat} (hp : p < 14) (x f3 : Int32) (fr : Bool) (hf1 : bt f3 1 = fr) (hf0 : bt f3 0 = !fr)
    (h : ∀ r, (∀ b, b < 32 → bt r b = (decide (b < 20) && ac_nb (op p) (ac_n p0 p) (ac_n v0 p) (ac_n p1 p) (ac_n v1 p) fr (bt x) b)) → post r) :
    ∀ (d i n : Nat) (r : Int32), i + d = 20 → d < n → (∀ b, b < 32 → bt r b = (decide (b < i) && ac_nb (op p) (ac_n p0 p) (ac_n v0 p) (ac_n p1 p) (ac_n v1 p) fr (bt x) b)) →
      wY_after_14 post (nI p) x f3 (op p) (nI c) dg ay fo bi sd op v0 v1 v2 p0 p1 p2 nv C W O va la n r (nI i) := by
  have hi14 : vp_in (nI p) 14 := vp_in_nI hp (by omega)
  have hn : (nI p).toNatClampNeg = p := nI_clamp (by omega)
  obtain ⟨lw, ew⟩ := ac_InN hp0 (by omega) p
  obtain ⟨lv, ev⟩ := ac_InN hv0 (by omega) p
  obtain ⟨lq, eq⟩ := ac_InN hp1 (by omega) p
  obtain ⟨la1, ea⟩ := ac_InN hv1 (by omega) p
  intro d
  induction d with
  | zero =>
    intro i n r hd hn1 hr
    cases n with
    | zero => omega
    | succ n =>
      have e : i = 20 := by omega
      subst e
      exact br_t (by decide) (h r hr)
  | succ d ih =>
    intro i n r hd hn1 hr
    cases n with
    | zero => omega
    | succ n =>
      have e20 : ¬ (20 : Int32) ≤ nI i := nI_ge (b := 20) (by omega) (by omega)
      have K : ∀ z, (∀ j, j < 32 → bt z j = (decide (j = 0) && ac_nb (op p) (ac_n p0 p) (ac_n v0 p) (ac_n p1 p) (ac_n v1 p) fr (bt x) i)) →
          wY_after_196 post (wY_after_14 post (nI p) x f3 (op p) (nI c) dg ay fo bi sd op v0 v1 v2 p0 p1 p2 nv C W O va la n) (nI p) x f3 (op p) r (nI i) z (nI c) dg ay fo bi sd op v0 v1 v2 p0 p1 p2 nv C W O va la := by
        intro z hz
        exact nm_e (nm_r (nI_1 i) (ih (i + 1) n _ (by omega) (by omega) (ac_yst (by omega) hr hz)))
      have cw : nI (i / 4) = p0 p ↔ i / 4 = ac_n p0 p := by
        rw [ew, nI_eq (by omega) (by omega)]
      have cv : nI (i % 4) = v0 p ↔ i % 4 = ac_n v0 p := by
        rw [ev, nI_eq (by omega) (by omega)]
      have n4 : ¬ (4 : Int32) = 0 := by decide
      refine br_f e20 ⟨n4, nm_r (e' := nI (i / 4)) (pk_div (d := 4) (by omega) (by omega) (by omega)) ⟨n4, nm_r (e' := nI (i % 4)) (pk_rem (d := 4) (by omega) (by omega) (by omega)) (nm_e ?_)⟩⟩
      have K52 : op p = 0 ∨ op p = 1 → wY_after_52 post (wY_after_14 post (nI p) x f3 (op p) (nI c) dg ay fo bi sd op v0 v1 v2 p0 p1 p2 nv C W O va la n) (nI p) x f3 (op p) r (nI i) (nI (i / 4)) (nI (i % 4)) ((x >>> (nI i &&& 31)) &&& 1) (nI c) dg ay fo bi sd op v0 v1 v2 p0 p1 p2 nv C W O va la := by
        intro h01
        unfold wY_after_52 wY_after_74 wY_after_101 wY_after_102 wY_after_110
        rw [hn]
        unfold ac_nb at K
        by_cases e1 : i / 4 = ac_n p0 p
        · by_cases e2 : i % 4 = ac_n v0 p
          · refine ⟨hi14, br_t (cw.mpr e1) ⟨hi14, br_t (cw.mpr e1) ⟨hi14, br_t (cv.mpr e2) (K _ (fun j hj => ?_))⟩⟩⟩
            rw [if_pos h01, if_pos (Or.inl e1), if_pos ⟨e1, e2⟩, ← hf1]
            exact ac_one f3 (k := 1) (by omega) hj
          · refine ⟨hi14, br_t (cw.mpr e1) ⟨hi14, br_t (cw.mpr e1) ⟨hi14, br_f (fun z => e2 (cv.mp z)) (K _ (fun j hj => ?_))⟩⟩⟩
            rw [if_pos h01, if_pos (Or.inl e1), if_neg (fun z => e2 z.2), ← hf0]
            exact ac_one f3 (k := 0) (by omega) hj
        · by_cases e2 : i % 4 = ac_n v0 p
          · refine ⟨hi14, br_f (fun z => e1 (cw.mp z)) ⟨hi14, br_t (cv.mpr e2) ⟨hi14, br_f (fun z => e1 (cw.mp z)) (K _ (fun j hj => ?_))⟩⟩⟩
            rw [if_pos h01, if_pos (Or.inr e2), if_neg (fun z => e1 z.1), ← hf0]
            exact ac_one f3 (k := 0) (by omega) hj
          · refine ⟨hi14, br_f (fun z => e1 (cw.mp z)) ⟨hi14, br_f (fun z => e2 (cv.mp z)) (K _ (fun j hj => ?_))⟩⟩
            rw [if_pos h01, if_neg (fun z => z.elim e1 e2)]
            exact ac_one x (k := i) (by omega) hj
      refine br_c (fun z => K52 (Or.inl z)) (fun z0 => br_c (fun z => K52 (Or.inr z)) (fun z1 => ?_))
      have h01 : ¬ (op p = 0 ∨ op p = 1) := fun z => z.elim z0 z1
      unfold ac_nb at K
      refine br_c (fun z2 => ?_) (fun z2 => br_c (fun z4 => ?_) (fun z4 => ?_))
      · unfold wY_after_152
        rw [hn]
        by_cases e1 : i / 4 = ac_n p0 p
        · refine ⟨hi14, br_t (cw.mpr e1) ⟨hi14, K _ (fun j hj => ?_)⟩⟩
          rw [if_neg h01, if_pos z2, if_pos e1]
          have e5 : 4 * p1 p + nI (i % 4) = nI (4 * ac_n p1 p + i % 4) := by
            rw [← nI_add, ← pk_mul, ← eq]; rfl
          rw [e5]
          exact ac_one x (by omega) hj
        · refine ⟨hi14, br_f (fun z => e1 (cw.mp z)) (K _ (fun j hj => ?_))⟩
          rw [if_neg h01, if_pos z2, if_neg e1]
          exact ac_one x (k := i) (by omega) hj
      · unfold wY_after_194
        rw [hn]
        by_cases e2 : i % 4 = ac_n v0 p
        · refine ⟨hi14, br_t (cv.mpr e2) ⟨hi14, K _ (fun j hj => ?_)⟩⟩
          rw [if_neg h01, if_neg z2, if_pos z4, if_pos e2]
          have e5 : 4 * nI (i / 4) + v1 p = nI (4 * (i / 4) + ac_n v1 p) := by
            rw [← nI_add, ← pk_mul, ← ea]; rfl
          rw [e5]
          exact ac_one x (by omega) hj
        · refine ⟨hi14, br_f (fun z => e2 (cv.mp z)) (K _ (fun j hj => ?_))⟩
          rw [if_neg h01, if_neg z2, if_pos z4, if_neg e2]
          exact ac_one x (k := i) (by omega) hj
      · refine K _ (fun j hj => ?_)
        rw [if_neg h01, if_neg z2, if_neg z4]
        exact ac_one x (k := i) (by omega) hj
theorem ac_yA2 {post : Int32 → Prop} {C W O : Nat → Int32} (hv0 : ac_In 4 v0) (hv1 : ac_In 4 v1) (hp0 : ac_In 5 p0) (hp1 : ac_In 5 p1) {p : Nat} (hp : p < 14) {x : Int32} (hx : ac_lo x)
    (h : post (ac_af op v0 v1 p0 p1 p x)) : wpY_after post (nI c, dg, ay, fo, bi, sd, op, v0, v1, v2, p0, p1, p2, nv, C, W, O, va, la) (nI p) x 2 := by
  have hi14 : vp_in (nI p) 14 := vp_in_nI hp (by omega)
  have hn : (nI p).toNatClampNeg = p := nI_clamp (by omega)
  unfold wpY_after
  dsimp only
  rw [hn]
  refine ⟨hi14, nm_e ⟨21, ac_yAl hv0 hv1 hp0 hp1 hp x 2 true (by decide) (by decide) (fun r hr => ?_) 20 0 21 0 (by omega) (by omega) (fun b hb => ?_)⟩⟩
  · have e : r = ac_af op v0 v1 p0 p1 p x := by
      apply b_ext
      intro b hb
      unfold ac_af
      rw [hr b hb, ac_xab (ac_InN hp0 (by omega) p).1 (ac_InN hv0 (by omega) p).1 (ac_InN hp1 (by omega) p).1 (ac_InN hv1 (by omega) p).1 hx hb]
    rw [e]; exact h
  · rw [b_0]; simp
theorem ac_yA1 {post : Int32 → Prop} {C W O : Nat → Int32} (hv0 : ac_In 4 v0) (hv1 : ac_In 4 v1) (hp0 : ac_In 5 p0) (hp1 : ac_In 5 p1) {p : Nat} (hp : p < 14) {x : Int32} (hx : ac_lo x)
    (h : post (ac_af op v0 v1 p0 p1 p x ^^^ 1048575)) : wpY_after post (nI c, dg, ay, fo, bi, sd, op, v0, v1, v2, p0, p1, p2, nv, C, W, O, va, la) (nI p) (x ^^^ 1048575) 1 := by
  have hi14 : vp_in (nI p) 14 := vp_in_nI hp (by omega)
  have hn : (nI p).toNatClampNeg = p := nI_clamp (by omega)
  unfold wpY_after
  dsimp only
  rw [hn]
  refine ⟨hi14, nm_e ⟨21, ac_yAl hv0 hv1 hp0 hp1 hp _ 1 false (by decide) (by decide) (fun r hr => ?_) 20 0 21 0 (by omega) (by omega) (fun b hb => ?_)⟩⟩
  · have e : r = ac_af op v0 v1 p0 p1 p x ^^^ 1048575 := by
      apply b_ext
      intro b hb
      rw [hr b hb]
      rcases Nat.lt_or_ge b 20 with h2 | h2
      · rw [ac_xm _ h2, decide_eq_true h2, Bool.true_and]
        unfold ac_af
        rw [ac_xab (ac_InN hp0 (by omega) p).1 (ac_InN hv0 (by omega) p).1 (ac_InN hp1 (by omega) p).1 (ac_InN hv1 (by omega) p).1 hx hb, decide_eq_true h2, Bool.true_and]
        exact ac_nbn (ac_InN hp1 (by omega) p).1 (ac_InN hv1 (by omega) p).1 (fun i hi => ac_xm x hi) h2
      · rw [ac_xm2 _ h2, ac_afl hv0 hv1 hp0 hp1 hx b h2, decide_eq_false (by omega)]; rfl
    rw [e]; exact h
  · rw [b_0]; simp
theorem ac_SimU {s : ac_T} {C W O : Nat → Int32} (hS : ac_Sim c s C W O) {q : Nat} {a b w o : Int32} (hw : (s.1 q = 0 ∧ w = b ∧ o = a ^^^ 1048575 ∧ ac_lo a ∧ ac_lo b) ∨ (s.1 q = 1 ∧ w = s.2.2 q ||| b ∧ o = (s.2.1 q &&& a) ^^^ 1048575 ∧ ac_lo (s.2.1 q &&& a) ∧ ac_lo (s.2.2 q ||| b))) :
    ac_Sim c (ac_arr s q a b).1 (upd C q 1) (upd W q w) (upd O q o) := by
  intro i hi
  by_cases e : i = q
  · subst e
    right
    rw [pk_us, pk_us, pk_us]
    unfold ac_arr
    rcases hw with ⟨h0, h1, h2, h3, h4⟩ | ⟨h0, h1, h2, h3, h4⟩
    · rw [if_pos h0]
      dsimp only
      rw [pk_us, pk_us, pk_us]; exact ⟨rfl, rfl, h1, h2, h3, h4⟩
    · rw [if_neg (by rw [h0]; decide)]
      dsimp only
      rw [pk_us, pk_us]; exact ⟨h0, rfl, h1, h2, h3, h4⟩
  · obtain ⟨e1, e2, e3⟩ := ac_arrNe (s := s) (a := a) (b := b) e
    rw [pk_un e, pk_un e, pk_un e, e1, e2, e3]; exact hS i hi
theorem ac_y90 {post : Int32 → SY → Prop} {C W O : Nat → Int32} {q : Nat} (hq : q < 14) (w o : Int32) (f : Bool) (h : post (ac_bI f) (nI c, dg, ay, fo, bi, sd, op, v0, v1, v2, p0, p1, p2, nv, upd C q 1, upd W q w, upd O q o, va, la)) : wY_carry_90 post (nI q) w o (ac_bI f) (nI c) dg ay fo bi sd op v0 v1 v2 p0 p1 p2 nv C W O va la := by
  have hi : vp_in (nI q) 14 := vp_in_nI hq (by omega)
  unfold wY_carry_90
  rw [nI_clamp (by omega : q < 2 ^ 31)]
  exact ⟨hi, nm_r (e' := upd C q 1) (by rw [ac_nar1]) ⟨hi, nm_e ⟨hi, nm_e ⟨ac_narB f, h⟩⟩⟩⟩
theorem ac_yCar {post : Int32 → SY → Prop} {C W O : Nat → Int32} {s : ac_T} (hS : ac_Sim c s C W O) (hv0 : ac_In 4 v0) (hv1 : ac_In 4 v1) (hp0 : ac_In 5 p0) (hp1 : ac_In 5 p1) (hc : c ≤ 14) {p : Nat} (hp : p < c) (hR : s.1 p ≠ 0) {q : Nat} (hq : q < c)
    (h : ∀ C' W' O', ac_Sim c (ac_arr s q (ac_af op v0 v1 p0 p1 p (s.2.1 p)) (ac_af op v0 v1 p0 p1 p (s.2.2 p))).1 C' W' O' → post (ac_bI (ac_arr s q (ac_af op v0 v1 p0 p1 p (s.2.1 p)) (ac_af op v0 v1 p0 p1 p (s.2.2 p))).2) (nI c, dg, ay, fo, bi, sd, op, v0, v1, v2, p0, p1, p2, nv, C', W', O', va, la)) :
    wpY_carry post (nI c, dg, ay, fo, bi, sd, op, v0, v1, v2, p0, p1, p2, nv, C, W, O, va, la) (nI p) (nI q) := by
  have hip : vp_in (nI p) 14 := vp_in_nI (by omega) (by omega)
  have hiq : vp_in (nI q) 14 := vp_in_nI (by omega) (by omega)
  have hlt : nI q < nI c := nI_lt hq (by omega)
  unfold wpY_carry
  dsimp only
  rw [nI_clamp (by omega : p < 2 ^ 31), nI_clamp (by omega : q < 2 ^ 31)]
  rcases hS p hp with z | ⟨_, _, eW, eO, lA, lS⟩
  · exact absurd z.1 hR
  refine br_f (nI_pos (by omega)) (br_t hlt ⟨hiq, hip, ?_⟩)
  rw [eW, eO]
  refine ac_yA2 hv0 hv1 hp0 hp1 (by omega) lS (nm_e ⟨hiq, hip, ac_yA1 hv0 hv1 hp0 hp1 (by omega) lA (nm_e ⟨hiq, ?_⟩)⟩)
  have la := ac_afl (op := op) hv0 hv1 hp0 hp1 (p := p) lA
  have lb := ac_afl (op := op) hv0 hv1 hp0 hp1 (p := p) lS
  revert h la lb
  generalize ac_af op v0 v1 p0 p1 p (s.2.1 p) = a
  generalize ac_af op v0 v1 p0 p1 p (s.2.2 p) = b
  intro h la lb
  rcases hS q hq with ⟨r0, c0, w0, o0⟩ | ⟨r1, c1, w1, o1, lA2, lS2⟩
  · refine br_t c0 ?_
    rw [w0, o0, ac_0or, ac_0or]
    unfold wY_carry_85
    refine ac_y90 (by omega) _ _ true ?_
    have := h _ _ _ (ac_SimU hS (q := q) (a := a) (b := b) (Or.inl ⟨r0, rfl, rfl, la, lb⟩))
    have e : (ac_arr s q a b).2 = true := by unfold ac_arr; rw [if_pos r0]
    rw [e] at this
    exact this
  · have hH := h _ _ _ (ac_SimU hS (q := q) (a := a) (b := b) (Or.inr ⟨r1, rfl, rfl, ac_loA lA2, ac_loO lS2 lb⟩))
    have e : (ac_arr s q a b).2 = decide (¬ (s.2.1 q &&& a = s.2.1 q ∧ s.2.2 q ||| b = s.2.2 q)) := by unfold ac_arr; rw [if_neg (by rw [r1]; decide)]
    rw [e] at hH
    refine br_f (by rw [c1]; decide) ⟨hiq, ?_⟩
    rw [w1, o1, ac_dm lA2 la]
    unfold wY_carry_85
    by_cases h2 : s.2.2 q ||| b = s.2.2 q
    · refine br_t h2 ⟨hiq, ?_⟩
      by_cases h1 : s.2.1 q &&& a = s.2.1 q
      · rw [decide_eq_false (fun z => z ⟨h1, h2⟩)] at hH
        exact br_t (by rw [h1]) (ac_y90 (by omega) _ _ false hH)
      · rw [decide_eq_true (show ¬ (s.2.1 q &&& a = s.2.1 q ∧ s.2.2 q ||| b = s.2.2 q) from fun z => h1 z.1)] at hH
        exact br_f (fun z => h1 (ac_xmi z)) (ac_y90 (by omega) _ _ true hH)
    · rw [decide_eq_true (show ¬ (s.2.1 q &&& a = s.2.1 q ∧ s.2.2 q ||| b = s.2.2 q) from fun z => h2 z.2)] at hH
      exact br_f h2 (ac_y90 (by omega) _ _ true hH)
theorem ac_yCarN {post : Int32 → SY → Prop} {C W O : Nat → Int32} {p : Int32} {x : Int32} (hx : ¬ (¬ x < 0 ∧ ¬ nI c ≤ x)) (h : post 0 (nI c, dg, ay, fo, bi, sd, op, v0, v1, v2, p0, p1, p2, nv, C, W, O, va, la)) : wpY_carry post (nI c, dg, ay, fo, bi, sd, op, v0, v1, v2, p0, p1, p2, nv, C, W, O, va, la) p x := by
  unfold wpY_carry
  exact br_c (fun _ => h) (fun z => br_f (fun z2 => hx ⟨z, Int32.not_le.mpr z2⟩) h)
end
