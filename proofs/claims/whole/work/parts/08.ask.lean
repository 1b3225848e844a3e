section
variable {c : Nat} {dg ay fo bi sd : Int32} {op v0 v1 v2 p0 p1 p2 nu nv va la C W O : Nat → Int32}
theorem ac_yIns {post : Int32 → Prop} (x : Int32) (h0 : ¬ x < 0 ∧ ¬ nI c ≤ x → post 1) (h1 : ¬ (¬ x < 0 ∧ ¬ nI c ≤ x) → post 0) : wpY_inside post (nI c, dg, ay, fo, bi, sd, op, v0, v1, v2, p0, p1, p2, nv, C, W, O, va, la) x := by
  unfold wpY_inside
  exact br_c (fun z => h1 (fun y => y.1 z)) (fun z => br_c (fun z2 => h1 (fun y => y.2 z2)) (fun z2 => h0 ⟨z, z2⟩))
theorem ac_y165 {post : Int32 → SY → Prop} (f1 f2 f3 : Bool) (h : post (ac_sum f1 f2 f3) (nI c, dg, ay, fo, bi, sd, op, v0, v1, v2, p0, p1, p2, nv, C, W, O, va, la)) : wY_faults_165 post (ac_bI f1) (ac_bI f2) (ac_bI f3) (nI c) dg ay fo bi sd op v0 v1 v2 p0 p1 p2 nv C W O va la := by
  unfold wY_faults_165 wY_faults_176 wY_faults_186
  cases f1 with
  | false =>
    refine br_t rfl ?_
    cases f2 with
    | false =>
      refine br_t rfl ?_
      cases f3 with
      | false => exact br_t rfl h
      | true => exact br_f ac_1ne h
    | true =>
      refine br_f ac_1ne ?_
      cases f3 with
      | false => exact br_t rfl h
      | true => exact br_f ac_1ne h
  | true =>
    refine br_f ac_1ne ?_
    cases f2 with
    | false =>
      refine br_t rfl ?_
      cases f3 with
      | false => exact br_t rfl h
      | true => exact br_f ac_1ne h
    | true =>
      refine br_f ac_1ne ?_
      cases f3 with
      | false => exact br_t rfl h
      | true => exact br_f ac_1ne h
theorem ac_y112 {post : Int32 → SY → Prop} {p : Nat} (hnv : ∀ i, op i ≠ 7 → nv i = nu i) (hc : c ≤ 14) (hp : p < c) (f1 f2 : Bool) (h : post (ac_sum f1 f2 (decide (ac_lv op nu c p))) (nI c, dg, ay, fo, bi, sd, op, v0, v1, v2, p0, p1, p2, nv, C, W, O, va, la)) : wY_faults_112 post (nI p) (op p) (ac_bI f1) (ac_bI f2) (nI c) dg ay fo bi sd op v0 v1 v2 p0 p1 p2 nv C W O va la := by
  have hi : vp_in (nI p) 14 := vp_in_nI (by omega) (by omega)
  unfold wY_faults_112
  rw [nI_1 p]
  have k : ¬ (op p ≠ 6 ∧ op p ≠ 7 ∧ ¬ p + 1 < c) → wY_faults_136 post (nI p) (op p) (ac_bI f1) (ac_bI f2) (nI c) dg ay fo bi sd op v0 v1 v2 p0 p1 p2 nv C W O va la := by
    intro z
    have k2 : op p = 5 ∨ op p = 6 → wY_faults_147 post (nI p) (ac_bI f1) (ac_bI f2) (nI c) dg ay fo bi sd op v0 v1 v2 p0 p1 p2 nv C W O va la := by
      intro h5
      unfold wY_faults_147 wY_faults_160 wY_faults_164
      have en : nv p = nu p := hnv p (by rcases h5 with y | y <;> rw [y] <;> decide)
      rw [nI_clamp (by omega : p < 2 ^ 31), en]
      refine ⟨hi, ac_yIns _ (fun y => br_f ac_1ne ?_) (fun y => br_t rfl ?_)⟩
      · rw [decide_eq_false (fun w => w.elim z (fun w2 => w2.2 y))] at h; exact ac_y165 f1 f2 false h
      · rw [decide_eq_true (Or.inr ⟨h5, y⟩)] at h; exact ac_y165 f1 f2 true h
    unfold wY_faults_136 wY_faults_164
    refine br_c (fun h5 => k2 (Or.inl h5)) (fun h5 => br_c (fun h6 => k2 (Or.inr h6)) (fun h6 => ?_))
    rw [decide_eq_false (fun w => w.elim z (fun w2 => w2.1.elim h5 h6))] at h; exact ac_y165 f1 f2 false h
  unfold wY_faults_160
  refine br_c (fun h6 => k (fun z => z.1 h6)) (fun h6 => br_c (fun h7 => k (fun z => z.2.1 h7)) (fun h7 => ac_yIns _ (fun y => br_f ac_1ne ?_) (fun y => br_t rfl ?_)))
  · exact k (fun z => z.2.2 ((ac_p1 (by omega) hc).mp y))
  · rw [ac_p1 (by omega) hc] at y
    rw [decide_eq_true (Or.inl ⟨h6, h7, y⟩)] at h; exact ac_y165 f1 f2 true h
theorem ac_yBit {A : Nat → Int32} {p k : Nat} (hk : k < 20) (hO : O p = A p ^^^ 1048575) : ((O p >>> (nI k &&& 31)) &&& 1) = 1 ↔ bt (A p) k = false := by
  rw [ac_sb (O p) (by omega), hO, ac_xm _ hk]; cases bt (A p) k <;> simp
theorem ac_y73 {post : Int32 → SY → Prop} {p : Nat} (hnv : ∀ i, op i ≠ 7 → nv i = nu i) (hc : c ≤ 14) (hp : p < c) {A : Nat → Int32} (hO : O p = A p ^^^ 1048575) (hv2 : ac_In 4 v2) (hp2 : ac_In 5 p2) (f1 : Bool) (h : post (ac_sum f1 (ac_d2 op v2 p2 A p) (decide (ac_lv op nu c p))) (nI c, dg, ay, fo, bi, sd, op, v0, v1, v2, p0, p1, p2, nv, C, W, O, va, la)) : wY_faults_73 post (nI p) (op p) (ac_bI f1) (nI c) dg ay fo bi sd op v0 v1 v2 p0 p1 p2 nv C W O va la := by
  have hi : vp_in (nI p) 14 := vp_in_nI (by omega) (by omega)
  obtain ⟨l, e⟩ := ac_4k hp2 hv2 p
  unfold wY_faults_73 wY_faults_111
  rw [nI_clamp (by omega : p < 2 ^ 31), e]
  unfold ac_d2 at h
  refine br_c (fun h1 => ⟨hi, hi, hi, br_c (fun b => ?_) (fun b => ?_)⟩) (fun h1 => ?_)
  · rw [decide_eq_true ⟨h1, (ac_yBit l hO).mp b⟩] at h
    exact ac_y112 hnv hc hp f1 true h
  · rw [decide_eq_false (fun w => b ((ac_yBit l hO).mpr w.2))] at h
    exact ac_y112 hnv hc hp f1 false h
  · rw [decide_eq_false (fun w => h1 w.1)] at h
    exact ac_y112 hnv hc hp f1 false h
theorem ac_y40 {post : Int32 → SY → Prop} {p : Nat} (hnv : ∀ i, op i ≠ 7 → nv i = nu i) (hc : c ≤ 14) (hp : p < c) {A : Nat → Int32} (hO : O p = A p ^^^ 1048575) (hv1 : ac_In 4 v1) (hp1 : ac_In 5 p1) (hv2 : ac_In 4 v2) (hp2 : ac_In 5 p2) (h1 : op p = 1 ∨ op p = 3) (h : post (ac_sum (ac_d1 op v1 p1 A p) (ac_d2 op v2 p2 A p) (decide (ac_lv op nu c p))) (nI c, dg, ay, fo, bi, sd, op, v0, v1, v2, p0, p1, p2, nv, C, W, O, va, la)) : wY_faults_40 post (nI p) (op p) (nI c) dg ay fo bi sd op v0 v1 v2 p0 p1 p2 nv C W O va la := by
  have hi : vp_in (nI p) 14 := vp_in_nI (by omega) (by omega)
  obtain ⟨l, e⟩ := ac_4k hp1 hv1 p
  unfold wY_faults_40 wY_faults_72
  rw [nI_clamp (by omega : p < 2 ^ 31), e]
  unfold ac_d1 at h
  refine ⟨hi, hi, hi, br_c (fun b => ?_) (fun b => ?_)⟩
  · rw [decide_eq_true ⟨h1, (ac_yBit l hO).mp b⟩] at h
    exact ac_y73 hnv hc hp hO hv2 hp2 true h
  · rw [decide_eq_false (fun w => b ((ac_yBit l hO).mpr w.2))] at h
    exact ac_y73 hnv hc hp hO hv2 hp2 false h
end
section
variable {c : Nat} {dg ay fo bi sd : Int32} {op v0 v1 v2 p0 p1 p2 nu nv va la C W O R A S : Nat → Int32} {s0 : ac_T}
theorem ac_yFa {post : Int32 → SY → Prop} {p : Nat} (hnv : ∀ i, op i ≠ 7 → nv i = nu i) (hc : c ≤ 14) (hP : ac_Prg op v0 v1 v2 p0 p1 p2) (hI : ac_Ini c s0) (hE : (R, A, S) = ac_it (ac_F op v0 v1 p0 p1 nu c) 575 s0) (hp : p < c)
    (h : ∀ C W O : Nat → Int32, post (ac_fv op v1 v2 p1 p2 nu R A c p) (nI c, dg, ay, fo, bi, sd, op, v0, v1, v2, p0, p1, p2, nv, C, W, O, va, la)) : wpY_faults post (nI c, dg, ay, fo, bi, sd, op, v0, v1, v2, p0, p1, p2, nv, C, W, O, va, la) (nI p) := by
  obtain ⟨hop, hv0, hv1, hv2, hp0, hp1, hp2⟩ := hP
  unfold wpY_faults
  dsimp only
  refine ac_yCol hnv hv0 hv1 hp0 hp1 hc hI ?_
  rw [← hE]
  intro C W O hS
  have hi : vp_in (nI p) 14 := vp_in_nI (by omega) (by omega)
  have h := h C W O
  dsimp only
  rw [nI_clamp (by omega : p < 2 ^ 31)]
  refine ac_yIns _ (fun _ => br_f ac_1ne ⟨hi, ?_⟩) (fun z => absurd (ac_inC hp hc) z)
  unfold ac_fv at h
  rcases hS p hp with ⟨z1, z2, _, _⟩ | ⟨z1, z2, _, zO, _, _⟩
  · have z1' : R p = 0 := z1
    rw [if_pos z1'] at h
    exact br_t z2 h
  · have z1' : ¬ R p = 0 := by rw [show R p = 1 from z1]; decide
    rw [if_neg z1'] at h
    refine br_f (by rw [z2]; decide) ⟨hi, nm_e (br_c (fun h1 => ?_) (fun h1 => br_c (fun h3 => ?_) (fun h3 => ?_)))⟩
    · exact ac_y40 hnv hc hp zO hv1 hp1 hv2 hp2 (Or.inl h1) h
    · exact ac_y40 hnv hc hp zO hv1 hp1 hv2 hp2 (Or.inr h3) h
    · unfold ac_d1 at h
      rw [decide_eq_false (fun w => w.1.elim h1 h3)] at h
      exact ac_y73 hnv hc hp zO hv2 hp2 false h
theorem ac_yFaO {post : Int32 → SY → Prop} {x : Int32} (hnv : ∀ i, op i ≠ 7 → nv i = nu i) (hc : c ≤ 14) (hP : ac_Prg op v0 v1 v2 p0 p1 p2) (hI : ac_Ini c s0) (hx : ¬ (¬ x < 0 ∧ ¬ nI c ≤ x))
    (h : ∀ C W O : Nat → Int32, post 0 (nI c, dg, ay, fo, bi, sd, op, v0, v1, v2, p0, p1, p2, nv, C, W, O, va, la)) : wpY_faults post (nI c, dg, ay, fo, bi, sd, op, v0, v1, v2, p0, p1, p2, nv, C, W, O, va, la) x := by
  obtain ⟨hop, hv0, hv1, hv2, hp0, hp1, hp2⟩ := hP
  unfold wpY_faults
  dsimp only
  refine ac_yCol hnv hv0 hv1 hp0 hp1 hc hI ?_
  intro C W O hS
  exact ac_yIns _ (fun z => absurd z hx) (fun _ => br_t rfl (h C W O))
theorem ac_yReO {post : Int32 → SY → Prop} {x : Int32} (hnv : ∀ i, op i ≠ 7 → nv i = nu i) (hc : c ≤ 14) (hP : ac_Prg op v0 v1 v2 p0 p1 p2) (hI : ac_Ini c s0) (hx : ¬ (¬ x < 0 ∧ ¬ nI c ≤ x))
    (h : ∀ C W O : Nat → Int32, post 0 (nI c, dg, ay, fo, bi, sd, op, v0, v1, v2, p0, p1, p2, nv, C, W, O, va, la)) : wpY_reached post (nI c, dg, ay, fo, bi, sd, op, v0, v1, v2, p0, p1, p2, nv, C, W, O, va, la) x := by
  obtain ⟨hop, hv0, hv1, hv2, hp0, hp1, hp2⟩ := hP
  unfold wpY_reached
  dsimp only
  refine ac_yCol hnv hv0 hv1 hp0 hp1 hc hI ?_
  intro C W O hS
  exact ac_yIns _ (fun z => absurd z hx) (fun _ => br_t rfl (h C W O))
theorem ac_yRe {post : Int32 → SY → Prop} {p : Nat} (hnv : ∀ i, op i ≠ 7 → nv i = nu i) (hc : c ≤ 14) (hP : ac_Prg op v0 v1 v2 p0 p1 p2) (hI : ac_Ini c s0) (hE : (R, A, S) = ac_it (ac_F op v0 v1 p0 p1 nu c) 575 s0) (hp : p < c)
    (h : ∀ C W O : Nat → Int32, post (if R p = 0 then 0 else 1) (nI c, dg, ay, fo, bi, sd, op, v0, v1, v2, p0, p1, p2, nv, C, W, O, va, la)) : wpY_reached post (nI c, dg, ay, fo, bi, sd, op, v0, v1, v2, p0, p1, p2, nv, C, W, O, va, la) (nI p) := by
  obtain ⟨hop, hv0, hv1, hv2, hp0, hp1, hp2⟩ := hP
  unfold wpY_reached
  dsimp only
  refine ac_yCol hnv hv0 hv1 hp0 hp1 hc hI ?_
  rw [← hE]
  intro C W O hS
  have hi : vp_in (nI p) 14 := vp_in_nI (by omega) (by omega)
  have h := h C W O
  dsimp only
  rw [nI_clamp (by omega : p < 2 ^ 31)]
  refine ac_yIns _ (fun _ => br_f ac_1ne ⟨hi, ?_⟩) (fun z => absurd (ac_inC hp hc) z)
  by_cases z : R p = 0
  · rw [if_pos z] at h
    exact br_t ((ac_SimR hS hp).mpr z) h
  · rw [if_neg z] at h
    exact br_f (fun y => z ((ac_SimR hS hp).mp y)) h
theorem ac_yPl {post : Int32 → Prop} (x : Int32) (h1 : ¬ x < 0 ∧ ¬ 5 ≤ x → post 1) (h0 : ¬ (¬ x < 0 ∧ ¬ 5 ≤ x) → post 0) : wpY_place post (nI c, dg, ay, fo, bi, sd, op, v0, v1, v2, p0, p1, p2, nv, C, W, O, va, la) x := by
  unfold wpY_place
  refine br_c (fun z => h0 (fun y => y.1 z)) (fun z => br_c (fun z2 => h0 (fun y => y.2 ?_)) (fun z2 => h1 ⟨z, fun y => z2 ?_⟩))
  · rw [Int32.lt_iff_toInt_lt] at z2
    rw [Int32.le_iff_toInt_le]
    rw [show (4 : Int32).toInt = 4 from by decide] at z2
    rw [show (5 : Int32).toInt = 5 from by decide]
    omega
  · rw [Int32.le_iff_toInt_le] at y
    rw [Int32.lt_iff_toInt_lt]
    rw [show (5 : Int32).toInt = 5 from by decide] at y
    rw [show (4 : Int32).toInt = 4 from by decide]
    omega
theorem ac_yVa {post : Int32 → Prop} (x : Int32) (h1 : ¬ x < 0 ∧ ¬ 4 ≤ x → post 1) (h0 : ¬ (¬ x < 0 ∧ ¬ 4 ≤ x) → post 0) : wpY_value post (nI c, dg, ay, fo, bi, sd, op, v0, v1, v2, p0, p1, p2, nv, C, W, O, va, la) x := by
  unfold wpY_value
  refine br_c (fun z => h0 (fun y => y.1 z)) (fun z => br_c (fun z2 => h0 (fun y => y.2 ?_)) (fun z2 => h1 ⟨z, fun y => z2 ?_⟩))
  · rw [Int32.lt_iff_toInt_lt] at z2
    rw [Int32.le_iff_toInt_le]
    rw [show (3 : Int32).toInt = 3 from by decide] at z2
    rw [show (4 : Int32).toInt = 4 from by decide]
    omega
  · rw [Int32.le_iff_toInt_le] at y
    rw [Int32.lt_iff_toInt_lt]
    rw [show (4 : Int32).toInt = 4 from by decide] at y
    rw [show (3 : Int32).toInt = 3 from by decide]
    omega
end
theorem ac_xPl {post : Int32 → Prop} (x : Int32) (h1 : ¬ x < 0 ∧ ¬ 5 ≤ x → post 1) (h0 : ¬ (¬ x < 0 ∧ ¬ 5 ≤ x) → post 0) : wpX_isPlace post x := by
  unfold wpX_isPlace
  exact br_c (fun z => h0 (fun y => y.1 z)) (fun z => br_c (fun z2 => h0 (fun y => y.2 z2)) (fun z2 => h1 ⟨z, z2⟩))
theorem ac_xVa {post : Int32 → Prop} (x : Int32) (h1 : ¬ x < 0 ∧ ¬ 4 ≤ x → post 1) (h0 : ¬ (¬ x < 0 ∧ ¬ 4 ≤ x) → post 0) : wpX_isValue post x := by
  unfold wpX_isValue
  exact br_c (fun z => h0 (fun y => y.1 z)) (fun z => br_c (fun z2 => h0 (fun y => y.2 z2)) (fun z2 => h1 ⟨z, z2⟩))
theorem ac_nPl {x : Int32} (h : ¬ x < 0 ∧ ¬ 5 ≤ x) : ∃ j, j < 5 ∧ x = nI j := by
  obtain ⟨j, hj, rfl⟩ := nI_of h.1
  have h2 := h.2
  rw [show (5 : Int32) = nI 5 from rfl, nI_leI (by omega) hj] at h2
  exact ⟨j, by omega, rfl⟩
theorem ac_nVa {x : Int32} (h : ¬ x < 0 ∧ ¬ 4 ≤ x) : ∃ j, j < 4 ∧ x = nI j := by
  obtain ⟨j, hj, rfl⟩ := nI_of h.1
  have h2 := h.2
  rw [show (4 : Int32) = nI 4 from rfl, nI_leI (by omega) hj] at h2
  exact ⟨j, by omega, rfl⟩
theorem ac_carr {x y : Int32} (hx : ac_lo x) (hy : ac_lo y) {q : Nat} (hq : q < 5) :
    (15 &&& ((((x ^^^ 1048575) >>> (nI (4 * q) &&& 31)) &&& 15) ^^^ (-1))) ||| (((y >>> (nI (4 * q) &&& 31)) &&& 15) <<< ((4 : Int32) &&& 31)) =
    (((x.toUInt32 >>> ((nI (4 * q)).toUInt32 &&& Int32.toUInt32 31)).toInt32) &&& 15) ||| ((((y.toUInt32 >>> ((nI (4 * q)).toUInt32 &&& Int32.toUInt32 31)).toInt32) &&& 15) <<< ((4 : Int32) &&& 31)) := by
  apply b_ext
  intro b hb
  have e4 : ∀ z : Int32, bt (z <<< ((4 : Int32) &&& 31)) b = (decide (4 ≤ b) && bt z (b - 4)) := fun z => b_shl 4 (by omega) z hb
  rw [b_or, b_or, e4, e4, b_and, b_and, b_and, b_and, ac_not _ hb, b_and, ac_t4 b hb, ac_t4 (b - 4) (by omega), b_ushr (4 * q) (by omega), b_ushr (4 * q) (by omega), b_sshr (4 * q) (by omega) _ hb, b_sshr (4 * q) (by omega) _ (by omega : b - 4 < 32)]
  have g1 : (decide (b < 4) && !((if 4 * q + b < 32 then bt (x ^^^ 1048575) (4 * q + b) else bt (x ^^^ 1048575) 31) && decide (b < 4))) = (bt x (4 * q + b) && decide (b < 4)) := by
    by_cases h : b < 4
    · rw [if_pos (by omega), ac_xm x (by omega), decide_eq_true h]; cases bt x (4 * q + b) <;> rfl
    · rw [decide_eq_false h]; simp
  have g2 : (decide (4 ≤ b) && ((if 4 * q + (b - 4) < 32 then bt y (4 * q + (b - 4)) else bt y 31) && decide (b - 4 < 4))) = (decide (4 ≤ b) && (bt y (4 * q + (b - 4)) && decide (b - 4 < 4))) := by
    by_cases h : b - 4 < 4
    · rw [if_pos (by omega)]
    · rw [decide_eq_false h]; simp
  rw [g1, g2]
/-! sound -/
def ac_so (f : Nat → Int32) : Nat → Nat → Bool
  | 0, _ => true
  | d + 1, j => decide (f j = 0) && ac_so f d (j + 1)
section
variable {c : Nat} {st po ch fk od : Int32} {op v0 v1 v2 p0 p1 p2 nu sv ro R A S : Nat → Int32}
theorem ac_wSo {post : Int32 → Prop} (hc : c ≤ 14) (hv1 : ac_In 4 v1) (hp1 : ac_In 5 p1) (hv2 : ac_In 4 v2) (hp2 : ac_In 5 p2) :
    ∀ (d j n : Nat), j + d = c → d < n → post (ac_bI (decide (0 < c) && ac_so (ac_fv op v1 v2 p1 p2 nu R A c) d j)) → wX_sound_2 post (nI c) st po ch fk od op v0 v1 v2 p0 p1 p2 nu R A S sv ro n (nI j) := by
  intro d
  induction d with
  | zero =>
    intro j n hd hn h
    cases n with
    | zero => omega
    | succ n =>
      refine br_t (nI_le (by omega) (by omega)) ?_
      rcases Nat.eq_zero_or_pos c with z | z
      · rw [decide_eq_false (by omega)] at h
        exact br_t (by rw [z]; decide) h
      · rw [decide_eq_true z] at h
        exact br_f (nI_nle z (by omega)) h
  | succ d ih =>
    intro j n hd hn h
    cases n with
    | zero => omega
    | succ n =>
      refine br_f (nI_ge (by omega) (by omega)) (ac_wFa hc (by omega) hv1 hp1 hv2 hp2 ?_)
      unfold ac_so at h
      by_cases z : ac_fv op v1 v2 p1 p2 nu R A c j = 0
      · rw [decide_eq_true z, Bool.true_and] at h
        exact br_t z (nm_r (nI_1 j) (ih (j + 1) n (by omega) (by omega) h))
      · rw [decide_eq_false z, Bool.false_and, Bool.and_false] at h
        exact br_f z h
end
section
variable {c : Nat} {dg ay fo bi sd : Int32} {op v0 v1 v2 p0 p1 p2 nu nv va la R A S : Nat → Int32} {s0 : ac_T}
theorem ac_ySo {post : Int32 → SY → Prop} (hnv : ∀ i, op i ≠ 7 → nv i = nu i) (hc : c ≤ 14) (hP : ac_Prg op v0 v1 v2 p0 p1 p2) (hI : ac_Ini c s0) (hE : (R, A, S) = ac_it (ac_F op v0 v1 p0 p1 nu c) 575 s0) :
    ∀ (d j n : Nat) (a : Int32) (C W O : Nat → Int32), j + d = c → d < n → (∀ C W O : Nat → Int32, post (ac_bI (decide (0 < c) && (decide (a = 0) && ac_so (ac_fv op v1 v2 p1 p2 nu R A c) d j))) (nI c, dg, ay, fo, bi, sd, op, v0, v1, v2, p0, p1, p2, nv, C, W, O, va, la)) → wY_sound_4 post n a (nI j) (nI c) dg ay fo bi sd op v0 v1 v2 p0 p1 p2 nv C W O va la := by
  intro d
  induction d with
  | zero =>
    intro j n a C W O hd hn h
    cases n with
    | zero => omega
    | succ n =>
      have h := h C W O
      refine br_t (nI_le (by omega) (by omega)) ?_
      rcases Nat.eq_zero_or_pos c with z | z
      · rw [decide_eq_false (by omega)] at h
        exact br_t (by rw [z]; decide) h
      · rw [decide_eq_true z] at h
        refine br_f (nI_nle z (by omega)) (br_c (fun e => ?_) (fun e => ?_))
        · rw [decide_eq_true e] at h; exact h
        · rw [decide_eq_false e] at h; exact h
  | succ d ih =>
    intro j n a C W O hd hn h
    cases n with
    | zero => omega
    | succ n =>
      refine br_f (nI_ge (by omega) (by omega)) (ac_yFa hnv hc hP hI hE (by omega) ?_)
      intro C' W' O'
      refine nm_e (nm_r (nI_1 j) (ih (j + 1) n _ C' W' O' (by omega) (by omega) ?_))
      intro C2 W2 O2
      have h := h C2 W2 O2
      unfold ac_so at h
      rw [← Bool.and_assoc (decide (a = 0)), ← Bool.decide_and] at h
      rw [show decide (a ||| ac_fv op v1 v2 p1 p2 nu R A c j = 0) = decide (a = 0 ∧ ac_fv op v1 v2 p1 p2 nu R A c j = 0) from decide_eq_decide.mpr ac_or0]
      exact h
end
