section
variable {c : Nat} {dg ay fo bi sd : Int32} {op v0 v1 v2 p0 p1 p2 nu nv va la : Nat → Int32}
variable {post : SY → Prop} {J63 J78 : Int32 → Int32 → Int32 → Int32 → Int32 → Int32 → Int32 → Int32 → (Nat → Int32) → (Nat → Int32) → (Nat → Int32) → (Nat → Int32) → (Nat → Int32) → (Nat → Int32) → (Nat → Int32) → (Nat → Int32) → (Nat → Int32) → (Nat → Int32) → (Nat → Int32) → (Nat → Int32) → (Nat → Int32) → Prop} {x2 : Int32}
theorem ac_y175 {C W O : Nat → Int32} {p : Nat} (f f1 f2 : Bool) (h : J78 (ac_bI (f || (f1 || f2))) (nI (p + 1)) (nI c) dg ay fo bi sd op v0 v1 v2 p0 p1 p2 nv C W O va la) : wY_collect_175 post J63 J78 (ac_bI f) x2 (nI p) (ac_bI f1) (ac_bI f2) (nI c) dg ay fo bi sd op v0 v1 v2 p0 p1 p2 nv C W O va la := by
  unfold wY_collect_175
  rw [nI_1 p]
  cases f with
  | true => exact br_f ac_1ne (nm_e h)
  | false =>
    cases f1 with
    | true => exact br_t rfl (br_f ac_1ne (nm_e h))
    | false =>
      cases f2 with
      | true => exact br_t rfl (br_t rfl (br_f ac_1ne (nm_e h)))
      | false => exact br_t rfl (br_t rfl (br_t rfl (nm_e h)))
theorem ac_yG2 {C W O : Nat → Int32} {s : ac_T} (hnv : ∀ i, op i ≠ 7 → nv i = nu i) (hS : ac_Sim c s C W O) (hv0 : ac_In 4 v0) (hv1 : ac_In 4 v1) (hp0 : ac_In 5 p0) (hp1 : ac_In 5 p1) (hc : c ≤ 14) {p : Nat} (hp : p < c) (hR : s.1 p ≠ 0) {a b : Int32} (ha : ac_af op v0 v1 p0 p1 p (s.2.1 p) = a) (hb : ac_af op v0 v1 p0 p1 p (s.2.2 p) = b) (f f1 : Bool)
    (h : ∀ C' W' O', ac_Sim c (ac_g2 op nu c p a b s).1 C' W' O' → J78 (ac_bI (f || (f1 || (ac_g2 op nu c p a b s).2))) (nI (p + 1)) (nI c) dg ay fo bi sd op v0 v1 v2 p0 p1 p2 nv C' W' O' va la) :
    wY_collect_133 post J63 J78 (ac_bI f) x2 (nI p) (ac_bI f1) (nI c) dg ay fo bi sd op v0 v1 v2 p0 p1 p2 nv C W O va la := by
  have hi : vp_in (nI p) 14 := vp_in_nI (by omega) (by omega)
  have key : op p = 5 ∨ op p = 6 → wY_collect_156 post J63 J78 (ac_bI f) x2 (nI p) (ac_bI f1) (nI c) dg ay fo bi sd op v0 v1 v2 p0 p1 p2 nv C W O va la := by
    intro h5
    unfold wY_collect_156 wY_collect_174
    rw [nI_clamp (by omega : p < 2 ^ 31)]
    have en : nv p = nu p := hnv p (by rcases h5 with y | y <;> rw [y] <;> decide)
    rw [en]
    refine ⟨hi, ?_⟩
    unfold ac_g2 at h
    by_cases y : ¬ nu p < 0 ∧ ¬ nI c ≤ nu p
    · rw [if_pos ⟨h5, y⟩] at h
      obtain ⟨t1, t2⟩ := ac_tgt hc y.1 y.2
      rw [t2]
      refine ac_yCar hS hv0 hv1 hp0 hp1 hc hp hR t1 ?_
      intro C' W' O' hS'
      rw [ha, hb] at hS' ⊢
      have := h C' W' O' hS'
      dsimp only
      cases e : (ac_arr s (nu p).toNatClampNeg a b).2
      · rw [e] at this
        exact br_t rfl (ac_y175 f f1 false this)
      · rw [e] at this
        exact br_f ac_1ne (ac_y175 f f1 true this)
    · rw [if_neg (fun z => y z.2)] at h
      refine ac_yCarN y ?_
      exact br_t rfl (ac_y175 f f1 false (h C W O hS))
  unfold wY_collect_133
  rw [nI_clamp (by omega : p < 2 ^ 31)]
  refine ⟨hi, br_c (fun z => key (Or.inl z)) (fun z => ⟨hi, br_c (fun z2 => key (Or.inr z2)) (fun z2 => ?_)⟩)⟩
  unfold ac_g2 at h
  rw [if_neg (fun y => y.1.elim z z2)] at h
  unfold wY_collect_174
  exact ac_y175 f f1 false (h C W O hS)
theorem ac_SimR {C W O : Nat → Int32} {s : ac_T} (hS : ac_Sim c s C W O) {p : Nat} (hp : p < c) : C p = 0 ↔ s.1 p = 0 := by
  rcases hS p hp with z | z
  · exact ⟨fun _ => z.1, fun _ => z.2.1⟩
  · rw [z.1, z.2.1]
theorem ac_yPs (hnv : ∀ i, op i ≠ 7 → nv i = nu i) (hv0 : ac_In 4 v0) (hv1 : ac_In 4 v1) (hp0 : ac_In 5 p0) (hp1 : ac_In 5 p1) (hc : c ≤ 14) :
    ∀ (d p : Nat) (s : ac_T) (C W O : Nat → Int32) (f : Bool) (n : Nat), p + d = c → d < n → ac_Sim c s C W O →
      (∀ C' W' O', ac_Sim c (ac_ps op v0 v1 p0 p1 nu c d p s f).1 C' W' O' → J63 (ac_bI (ac_ps op v0 v1 p0 p1 nu c d p s f).2) (x2 + 1) (nI c) dg ay fo bi sd op v0 v1 v2 p0 p1 p2 nv C' W' O' va la) →
      wY_collect_78 post J63 x2 n (ac_bI f) (nI p) (nI c) dg ay fo bi sd op v0 v1 v2 p0 p1 p2 nv C W O va la := by
  intro d
  induction d with
  | zero =>
    intro p s C W O f n hd hn hS h
    cases n with
    | zero => omega
    | succ n =>
      have e : nI c ≤ nI p := nI_le (by omega) (by omega)
      exact br_t e (nm_e (h C W O hS))
  | succ d ih =>
    intro p s C W O f n hd hn hS h
    cases n with
    | zero => omega
    | succ n =>
      have e : ¬ nI c ≤ nI p := nI_ge (by omega) (by omega)
      have hi : vp_in (nI p) 14 := vp_in_nI (by omega) (by omega)
      have hcl : (nI p).toNatClampNeg = p := nI_clamp (by omega)
      unfold ac_ps at h
      refine br_f e ⟨hi, ?_⟩
      by_cases h0 : s.1 p = 0
      · rw [if_pos h0] at h
        exact br_t (by rw [hcl]; exact (ac_SimR hS (by omega)).mpr h0) (nm_r (nI_1 p) (ih (p + 1) s C W O f n (by omega) (by omega) hS h))
      · rw [if_neg h0] at h
        refine br_f (by rw [hcl]; exact fun z => h0 ((ac_SimR hS (by omega)).mp z)) ⟨hi, ?_⟩
        rw [hcl, nI_1 p]
        have J : ∀ C' W' O', ac_Sim c (ac_go op v0 v1 p0 p1 nu c p s).1 C' W' O' → wY_collect_78 post J63 x2 n (ac_bI (f || (ac_go op v0 v1 p0 p1 nu c p s).2)) (nI (p + 1)) (nI c) dg ay fo bi sd op v0 v1 v2 p0 p1 p2 nv C' W' O' va la :=
          fun C' W' O' hS' => ih (p + 1) _ C' W' O' _ n (by omega) (by omega) hS' h
        unfold ac_go at J
        have key : ∀ (s1 : ac_T) (C1 W1 O1 : Nat → Int32) (f1 : Bool), ac_Sim c s1 C1 W1 O1 → ac_g1 op v0 v1 p0 p1 c p s = (s1, f1) → s1.1 p = s.1 p → s1.2.1 p = s.2.1 p → s1.2.2 p = s.2.2 p →
            wY_collect_133 post J63 (wY_collect_78 post J63 x2 n) (ac_bI f) x2 (nI p) (ac_bI f1) (nI c) dg ay fo bi sd op v0 v1 v2 p0 p1 p2 nv C1 W1 O1 va la := by
          intro s1 C1 W1 O1 f1 hS1 e1 q1 q2 q3
          rw [e1] at J
          exact ac_yG2 hnv hS1 hv0 hv1 hp0 hp1 hc (by omega) (by rw [q1]; exact h0) (by rw [q2]) (by rw [q3]) f f1 J
        have k0 : ¬ (op p ≠ 6 ∧ op p ≠ 7 ∧ p + 1 < c) → wY_collect_132 post J63 (wY_collect_78 post J63 x2 n) (ac_bI f) x2 (nI p) (nI c) dg ay fo bi sd op v0 v1 v2 p0 p1 p2 nv C W O va la := by
          intro z
          exact key s C W O false hS (if_neg z) rfl rfl rfl
        refine br_c (fun z => k0 (fun y => y.1 z)) (fun z6 => ⟨hi, br_c (fun z => k0 (fun y => y.2.1 z)) (fun z7 => ?_)⟩)
        by_cases hq : p + 1 < c
        · refine ac_yCar hS hv0 hv1 hp0 hp1 hc (by omega) h0 hq ?_
          intro C1 W1 O1 hS1
          have e1 : ac_g1 op v0 v1 p0 p1 c p s = ac_arr s (p + 1) (ac_af op v0 v1 p0 p1 p (s.2.1 p)) (ac_af op v0 v1 p0 p1 p (s.2.2 p)) := if_pos ⟨z6, z7, hq⟩
          obtain ⟨q1, q2, q3⟩ := ac_arrNe (s := s) (q := p + 1) (a := ac_af op v0 v1 p0 p1 p (s.2.1 p)) (b := ac_af op v0 v1 p0 p1 p (s.2.2 p)) (p := p) (by omega)
          dsimp only
          cases e2 : (ac_arr s (p + 1) (ac_af op v0 v1 p0 p1 p (s.2.1 p)) (ac_af op v0 v1 p0 p1 p (s.2.2 p))).2
          · exact br_t rfl (key _ C1 W1 O1 false hS1 (by rw [e1, ← e2]) q1 q2 q3)
          · exact br_f ac_1ne (key _ C1 W1 O1 true hS1 (by rw [e1, ← e2]) q1 q2 q3)
        · refine ac_yCarN ?_ ?_
          · rw [ac_p1 (by omega) hc]; exact hq
          · exact br_t rfl (k0 (fun y => hq y.2.2))
end
section
variable {c : Nat} {dg ay fo bi sd : Int32} {op v0 v1 v2 p0 p1 p2 nu nv va la : Nat → Int32} {post : SY → Prop}
theorem ac_yIt (hnv : ∀ i, op i ≠ 7 → nv i = nu i) (hv0 : ac_In 4 v0) (hv1 : ac_In 4 v1) (hp0 : ac_In 5 p0) (hp1 : ac_In 5 p1) (hc : c ≤ 14) :
    ∀ (m k n : Nat) (s : ac_T) (C W O : Nat → Int32) (f : Bool), m + k = 600 → m < n → ac_Sim c s C W O →
      (∀ C' W' O', ac_Sim c (if f = true then ac_it (ac_F op v0 v1 p0 p1 nu c) m s else s) C' W' O' → post (nI c, dg, ay, fo, bi, sd, op, v0, v1, v2, p0, p1, p2, nv, C', W', O', va, la)) →
      wY_collect_63 post n (ac_bI f) (nI k) (nI c) dg ay fo bi sd op v0 v1 v2 p0 p1 p2 nv C W O va la := by
  intro m
  induction m with
  | zero =>
    intro k n s C W O f hm hn hS h
    cases n with
    | zero => omega
    | succ n =>
      have e : (600 : Int32) ≤ nI k := nI_le (a := 600) (by omega) (by omega)
      refine br_t e (h C W O ?_)
      cases f <;> exact hS
  | succ m ih =>
    intro k n s C W O f hm hn hS h
    cases n with
    | zero => omega
    | succ n =>
      have e : ¬ (600 : Int32) ≤ nI k := nI_ge (b := 600) (by omega) (by omega)
      cases f with
      | false => exact br_f e (br_t rfl (h C W O hS))
      | true =>
        refine br_f e (br_f ac_1ne ⟨c + 1, ac_yPs hnv hv0 hv1 hp0 hp1 hc c 0 s C W O false (c + 1) (by omega) (by omega) hS ?_⟩)
        intro C' W' O' hS'
        rw [nI_1 k]
        refine ih (k + 1) n _ C' W' O' _ (by omega) (by omega) hS' ?_
        rw [if_pos rfl] at h
        unfold ac_it at h
        exact h
theorem ac_yRs (hc : c ≤ 14) : ∀ (d x : Nat) (C W O : Nat → Int32), x + d = 14 → (∀ i, i < x → C i = (if i = 0 ∧ 0 < c then 1 else 0) ∧ W i = 0 ∧ O i = if i = 0 then 1048575 else 0) →
    (∀ C' W' O' : Nat → Int32, (∀ i, i < 14 → C' i = (if i = 0 ∧ 0 < c then 1 else 0) ∧ W' i = 0 ∧ O' i = if i = 0 then 1048575 else 0) → ∃ n63 : Nat, wY_collect_63 post n63 1 0 (nI c) dg ay fo bi sd op v0 v1 v2 p0 p1 p2 nv C' W' O' va la) →
    wY_collect_2 post (nI c) dg ay fo bi sd (d + 1) (nI x) op v0 v1 v2 p0 p1 p2 nv C W O va la := by
  intro d
  induction d with
  | zero =>
    intro x C W O hd hI h
    have e : x = 14 := by omega
    subst e
    exact br_t (by decide) (h C W O hI)
  | succ d ih =>
    intro x C W O hd hI h
    have e : ¬ (14 : Int32) ≤ nI x := nI_ge (b := 14) (by omega) (by omega)
    have hi : vp_in (nI x) 14 := vp_in_nI (by omega) (by omega)
    have hcl : (nI x).toNatClampNeg = x := nI_clamp (by omega)
    have key : ∀ z0 : Int32, vp_nar .boolean z0 = (if x = 0 ∧ 0 < c then 1 else 0) → wY_collect_29 post (wY_collect_2 post (nI c) dg ay fo bi sd (d + 1)) (nI x) z0 (nI x) (nI c) dg ay fo bi sd op v0 v1 v2 p0 p1 p2 nv C W O va la := by
      intro z0 hz
      unfold wY_collect_29
      rw [hcl, hz, nI_1 x]
      have g : ∀ o : Int32, (o = if x = 0 then 1048575 else 0) → wY_collect_2 post (nI c) dg ay fo bi sd (d + 1) (nI (x + 1)) op v0 v1 v2 p0 p1 p2 nv (upd C x (if x = 0 ∧ 0 < c then 1 else 0)) (upd W x 0) (upd O x o) va la := by
        intro o ho
        refine ih (x + 1) _ _ _ (by omega) ?_ h
        intro i hi2
        by_cases e2 : i = x
        · subst e2
          rw [pk_us, pk_us, pk_us]; exact ⟨rfl, rfl, ho⟩
        · rw [pk_un e2, pk_un e2, pk_un e2]; exact hI i (by omega)
      refine ⟨hi, nm_e ⟨hi, nm_e ?_⟩⟩
      rcases Nat.eq_zero_or_pos x with z | z
      · have e0 : nI x = 0 := by rw [z]; rfl
        exact br_t e0 ⟨hi, nm_e (nm_e (g 1048575 (by rw [if_pos z])))⟩
      · exact br_f (nI_ne0 z (by omega)) ⟨hi, nm_e (nm_e (g 0 (by rw [if_neg (by omega)])))⟩
    refine br_f e ?_
    unfold wY_collect_28
    rcases Nat.eq_zero_or_pos x with z | z
    · have e0 : nI x = 0 := by rw [z]; rfl
      refine br_t e0 ?_
      rcases Nat.eq_zero_or_pos c with zc | zc
      · refine br_t (by rw [zc]; decide) (key 0 ?_)
        rw [if_neg (by omega), ac_nar0]
      · refine br_f (nI_nle zc (by omega)) (key 1 ?_)
        rw [if_pos ⟨z, zc⟩, ac_nar1]
    · refine br_f (nI_ne0 z (by omega)) (key 0 ?_)
      rw [if_neg (by omega), ac_nar0]
theorem ac_yCol {C W O : Nat → Int32} (hnv : ∀ i, op i ≠ 7 → nv i = nu i) (hv0 : ac_In 4 v0) (hv1 : ac_In 4 v1) (hp0 : ac_In 5 p0) (hp1 : ac_In 5 p1) (hc : c ≤ 14) {s0 : ac_T} (hI : ac_Ini c s0)
    (h : ∀ C' W' O', ac_Sim c (ac_it (ac_F op v0 v1 p0 p1 nu c) 575 s0) C' W' O' → post (nI c, dg, ay, fo, bi, sd, op, v0, v1, v2, p0, p1, p2, nv, C', W', O', va, la)) : wpY_collect post (nI c, dg, ay, fo, bi, sd, op, v0, v1, v2, p0, p1, p2, nv, C, W, O, va, la) := by
  refine ⟨15, ac_yRs hc 14 0 C W O (by omega) (fun i hi => absurd hi (by omega)) ?_⟩
  intro C' W' O' hJ
  refine ⟨601, ac_yIt hnv hv0 hv1 hp0 hp1 hc 600 0 601 s0 C' W' O' true (by omega) (by omega) ?_ ?_⟩
  · intro i hi
    obtain ⟨j1, j2, j3⟩ := hJ i (by omega)
    have i1 := hI.1 i (by omega)
    by_cases e : i = 0
    · have e2 : i = 0 ∧ 0 < c := ⟨e, by omega⟩
      rw [if_pos e2] at j1 i1
      rw [if_pos e] at j3
      obtain ⟨i2, i3⟩ := hI.2 e2.2
      right
      rw [e] at j1 j2 j3 i1 ⊢
      rw [i1, j1, j2, j3, i2, i3]
      exact ⟨rfl, rfl, rfl, by decide, ac_lo0, ac_lo0⟩
    · have e2 : ¬ (i = 0 ∧ 0 < c) := fun z => e z.1
      rw [if_neg e2] at j1 i1
      rw [if_neg e] at j3
      exact Or.inl ⟨i1, j1, j2, j3⟩
  · rw [if_pos rfl, ac_it600 hv0 hv1 hp0 hp1 hc hI]
    exact h
end
