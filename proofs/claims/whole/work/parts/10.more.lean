def ac_cv (R A S : Nat → Int32) (p : Nat) (x : Int32) : Int32 := if R p ≠ 0 ∧ ¬ x < 0 ∧ ¬ 5 ≤ x then ((((A p).toUInt32 >>> ((4 * x).toUInt32 &&& Int32.toUInt32 31)).toInt32) &&& 15) ||| (((((S p).toUInt32 >>> ((4 * x).toUInt32 &&& Int32.toUInt32 31)).toInt32) &&& 15) <<< ((4 : Int32) &&& 31)) else 0
section
variable {c : Nat} {st po ch fk od : Int32} {op v0 v1 v2 p0 p1 p2 nu sv ro R A S : Nat → Int32}
theorem ac_wCa {post : Int32 → Prop} {p : Nat} (hc : c ≤ 14) (hp : p < c) (x : Int32) (h : post (ac_cv R A S p x)) : wpX_carries post (nI c, st, po, ch, fk, od, op, v0, v1, v2, p0, p1, p2, nu, R, A, S, sv, ro) (nI p) x := by
  have hi : vp_in (nI p) 14 := vp_in_nI (by omega) (by omega)
  unfold wpX_carries
  dsimp only
  rw [nI_clamp (by omega : p < 2 ^ 31)]
  unfold ac_cv at h
  by_cases h0 : R p = 0
  · rw [if_neg (fun z => z.1 h0)] at h
    exact ac_wRe0 hc hp h0 (br_t rfl h)
  · refine ac_wRe1 hc hp h0 (br_f ac_1ne (ac_xPl x (fun b => br_f ac_1ne ⟨hi, nm_e ⟨hi, nm_e ?_⟩⟩) (fun b => br_t rfl ?_)))
    · rw [if_pos ⟨h0, b⟩] at h; exact h
    · rw [if_neg (fun z => b z.2)] at h; exact h
theorem ac_wCaO {post : Int32 → Prop} {x y : Int32} (hx : ¬ (¬ x < 0 ∧ ¬ nI c ≤ x)) (h : post 0) : wpX_carries post (nI c, st, po, ch, fk, od, op, v0, v1, v2, p0, p1, p2, nu, R, A, S, sv, ro) x y := by
  unfold wpX_carries
  exact ac_wReO hx (br_t rfl h)
end
section
variable {c : Nat} {dg ay fo bi sd : Int32} {op v0 v1 v2 p0 p1 p2 nu nv va la C W O R A S : Nat → Int32} {s0 : ac_T}
theorem ac_yCa {post : Int32 → SY → Prop} {p : Nat} (hnv : ∀ i, op i ≠ 7 → nv i = nu i) (hc : c ≤ 14) (hP : ac_Prg op v0 v1 v2 p0 p1 p2) (hI : ac_Ini c s0) (hE : (R, A, S) = ac_it (ac_F op v0 v1 p0 p1 nu c) 575 s0) (hp : p < c) (x : Int32)
    (h : ∀ C W O : Nat → Int32, post (ac_cv R A S p x) (nI c, dg, ay, fo, bi, sd, op, v0, v1, v2, p0, p1, p2, nv, C, W, O, va, la)) : wpY_carries post (nI c, dg, ay, fo, bi, sd, op, v0, v1, v2, p0, p1, p2, nv, C, W, O, va, la) (nI p) x := by
  obtain ⟨hop, hv0, hv1, hv2, hp0, hp1, hp2⟩ := hP
  unfold wpY_carries
  dsimp only
  refine ac_yCol hnv hv0 hv1 hp0 hp1 hc hI ?_
  rw [← hE]
  intro C W O hS
  have hi : vp_in (nI p) 14 := vp_in_nI (by omega) (by omega)
  have h := h C W O
  dsimp only
  rw [nI_clamp (by omega : p < 2 ^ 31)]
  refine ac_yIns _ (fun _ => br_f ac_1ne ⟨hi, ?_⟩) (fun z => absurd (ac_inC hp hc) z)
  unfold ac_cv at h
  rcases hS p hp with ⟨z1, z2, _, _⟩ | ⟨z1, z2, zW, zO, lA, lS⟩
  · have z1' : R p = 0 := z1
    rw [if_neg (fun z => z.1 z1')] at h
    exact br_t z2 h
  · have z1' : ¬ R p = 0 := by rw [show R p = 1 from z1]; decide
    refine br_f (by rw [z2]; decide) (ac_yPl x (fun b => br_f ac_1ne ⟨hi, nm_e ⟨hi, nm_e ?_⟩⟩) (fun b => br_t rfl ?_))
    · rw [if_pos ⟨z1', b⟩] at h
      obtain ⟨q, hq, rfl⟩ := ac_nPl b
      have e : (4 : Int32) * nI q = nI (4 * q) := by rw [← pk_mul]; rfl
      rw [e] at h ⊢
      rw [zW, zO]
      have g := ac_carr (x := A p) (y := S p) lA lS hq
      dsimp only
      rw [g]
      exact h
    · rw [if_neg (fun z => b z.2)] at h; exact h
theorem ac_yCaO {post : Int32 → SY → Prop} {x y : Int32} (hnv : ∀ i, op i ≠ 7 → nv i = nu i) (hc : c ≤ 14) (hP : ac_Prg op v0 v1 v2 p0 p1 p2) (hI : ac_Ini c s0) (hx : ¬ (¬ x < 0 ∧ ¬ nI c ≤ x))
    (h : ∀ C W O : Nat → Int32, post 0 (nI c, dg, ay, fo, bi, sd, op, v0, v1, v2, p0, p1, p2, nv, C, W, O, va, la)) : wpY_carries post (nI c, dg, ay, fo, bi, sd, op, v0, v1, v2, p0, p1, p2, nv, C, W, O, va, la) x y := by
  obtain ⟨hop, hv0, hv1, hv2, hp0, hp1, hp2⟩ := hP
  unfold wpY_carries
  dsimp only
  refine ac_yCol hnv hv0 hv1 hp0 hp1 hc hI ?_
  intro C W O hS
  exact ac_yIns _ (fun z => absurd z hx) (fun _ => br_t rfl (h C W O))
/-- three places in one int -/
def ac_3 (x : Int32) : Prop := ∃ j : Nat, j < 320 ∧ x = nI j ∧ j % 8 < 5 ∧ j / 8 % 8 < 5
theorem ac_3e {j : Nat} (hj : j < 2 ^ 31) : nI j &&& 7 = nI (j % 8) ∧ (nI j >>> ((3 : Int32) &&& 31)) &&& 7 = nI (j / 8 % 8) ∧ nI j >>> ((6 : Int32) &&& 31) = nI (j / 64) := by
  have h8 : j / 8 ≤ j := Nat.div_le_self _ _
  refine ⟨pk_andN (by omega) 3 (by decide), ?_, pk_shrN hj _ 6 (by decide)⟩
  rw [pk_shrN hj _ 3 (by decide)]
  exact pk_andN (by omega) 3 (by decide)
theorem ac_5 {n : Nat} (h : n < 2 ^ 31) : (5 : Int32) ≤ nI n ↔ 5 ≤ n := nI_leI (a := 5) (by omega) h
theorem ac_x3 {post : Int32 → Prop} (x : Int32) (h1 : ac_3 x → post 1) (h0 : ¬ ac_3 x → post 0) : wpX_areThreePlaces post x := by
  unfold wpX_areThreePlaces
  by_cases a : x < 0
  · refine br_t a (h0 ?_)
    intro ⟨j, hj, e, _⟩
    rw [e] at a
    exact nI_pos (by omega) a
  · obtain ⟨j, hj, rfl⟩ := nI_of a
    obtain ⟨e1, e2, e3⟩ := ac_3e hj
    rw [e1, e2, e3, ac_5 (by omega), ac_5 (by omega), ac_5 (by omega)]
    have n3 : ∀ P : Prop, (j < 320 ∧ j % 8 < 5 ∧ j / 8 % 8 < 5 → P) → ac_3 (nI j) → P := by
      intro P hP ⟨i, hi, e, i1, i2⟩
      rw [nI_eq hj (by omega)] at e
      subst e
      exact hP ⟨hi, i1, i2⟩
    refine br_f a (br_c (fun z => h0 (n3 _ (by omega))) (fun z => br_c (fun z2 => h0 (n3 _ (by omega))) (fun z2 => br_c (fun z3 => h0 (n3 _ (by omega))) (fun z3 => h1 ⟨j, by omega, rfl, by omega, by omega⟩))))
theorem ac_y3 {post : Int32 → SY → Prop} (x y : Int32) (hx0 : ¬ x < 0) (hx1 : ¬ 63 < x) (h1 : ac_3 y → wpY_append post (nI c, dg, ay, fo, bi, sd, op, v0, v1, v2, p0, p1, p2, nv, C, W, O, va, la) 1 x y 0) (h0 : ¬ ac_3 y → post (-1) (nI c, dg, ay, fo, bi, sd, op, v0, v1, v2, p0, p1, p2, nv, C, W, O, va, la)) : wpY_add post (nI c, dg, ay, fo, bi, sd, op, v0, v1, v2, p0, p1, p2, nv, C, W, O, va, la) x y := by
  unfold wpY_add wY_add_25 wY_add_26 wY_add_70 wY_add_71
  dsimp only
  by_cases a : y < 0
  · refine br_f hx0 (br_f hx1 (br_t a (br_t rfl (br_t rfl (h0 ?_)))))
    intro ⟨j, hj, e, _⟩
    rw [e] at a
    exact nI_pos (by omega) a
  · obtain ⟨j, hj, rfl⟩ := nI_of a
    obtain ⟨e1, e2, e3⟩ := ac_3e hj
    have h512 : (512 : Int32) ≤ nI j ↔ 512 ≤ j := nI_leI (a := 512) (by omega) hj
    have n3 : ∀ P : Prop, (j < 320 ∧ j % 8 < 5 ∧ j / 8 % 8 < 5 → P) → ac_3 (nI j) → P := by
      intro P hP ⟨i, hi, e, i1, i2⟩
      rw [nI_eq hj (by omega)] at e
      subst e
      exact hP ⟨hi, i1, i2⟩
    rw [e1, e2, e3]
    refine br_f hx0 (br_f hx1 (br_f a (br_c (fun z => br_t rfl (br_t rfl (h0 (n3 _ ?_)))) (fun z => br_f ac_1ne ?_))))
    · rw [h512] at z; omega
    · rw [h512] at z
      refine ac_yPl _ (fun b => br_f ac_1ne ?_) (fun b => br_t rfl (br_t rfl (h0 (n3 _ (fun w => b ⟨nI_pos (by omega), ?_⟩)))))
      · rw [ac_5 (by omega)] at b
        refine ac_yPl _ (fun b2 => br_f ac_1ne ?_) (fun b2 => br_t rfl (br_t rfl (h0 (n3 _ (fun w => b2 ⟨nI_pos (by omega), ?_⟩)))))
        · rw [ac_5 (by omega)] at b2
          refine ac_yPl _ (fun b3 => br_f ac_1ne (br_f ac_1ne (h1 ?_))) (fun b3 => br_t rfl (br_t rfl (h0 (n3 _ (fun w => b3 ⟨nI_pos (by omega), ?_⟩)))))
          · rw [ac_5 (by omega)] at b3
            exact ⟨j, by omega, rfl, by omega, by omega⟩
          · rw [ac_5 (by omega)]; omega
        · rw [ac_5 (by omega)]; omega
      · rw [ac_5 (by omega)]; omega
theorem ac_y3n {post : Int32 → SY → Prop} (x y : Int32) (hx : x < 0 ∨ 63 < x) (h0 : post (-1) (nI c, dg, ay, fo, bi, sd, op, v0, v1, v2, p0, p1, p2, nv, C, W, O, va, la)) : wpY_add post (nI c, dg, ay, fo, bi, sd, op, v0, v1, v2, p0, p1, p2, nv, C, W, O, va, la) x y := by
  unfold wpY_add wY_add_25 wY_add_26 wY_add_70 wY_add_71
  refine br_c (fun _ => br_t rfl (br_t rfl h0)) (fun a => ?_)
  exact br_t (hx.resolve_left a) (br_t rfl (br_t rfl h0))
end
theorem ac_pl1 : ∀ j, j < 5 → nI j &&& 7 = nI j ∧ (nI j >>> ((3 : Int32) &&& 31)) &&& 7 = nI 0 ∧ (nI j >>> ((6 : Int32) &&& 31)) &&& 7 = nI 0 := by decide +kernel
theorem ac_pl2 : ∀ a, a < 5 → ∀ b, b < 5 → nI a ||| (nI b <<< ((3 : Int32) &&& 31)) = nI a + 8 * nI b ∧ (nI a + 8 * nI b) &&& 7 = nI a ∧ ((nI a + 8 * nI b) >>> ((3 : Int32) &&& 31)) &&& 7 = nI b ∧ ((nI a + 8 * nI b) >>> ((6 : Int32) &&& 31)) &&& 7 = nI 0 := by decide +kernel
theorem ac_pl3 : ∀ b, b < 5 → nI b <<< ((3 : Int32) &&& 31) = 8 * nI b ∧ (8 * nI b) &&& 7 = nI 0 ∧ ((8 * nI b) >>> ((3 : Int32) &&& 31)) &&& 7 = nI b ∧ ((8 * nI b) >>> ((6 : Int32) &&& 31)) &&& 7 = nI 0 := by decide +kernel
theorem ac_vl1 : ∀ a, a < 4 → nI a <<< ((2 : Int32) &&& 31) = 4 * nI a := by decide +kernel
theorem ac_vl2 : ∀ a, a < 4 → ∀ b, b < 4 → nI a ||| (nI b <<< ((2 : Int32) &&& 31)) = nI a + 4 * nI b := by decide +kernel
