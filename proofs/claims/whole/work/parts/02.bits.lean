/-- bits 20 and above are 0 -/
def ac_lo (x : Int32) : Prop := ∀ b, 20 ≤ b → bt x b = false
/-- one bit after an instruction: w written place, v written value, q first place, a first value -/
def ac_nb (o : Int32) (w v q a : Nat) (fr : Bool) (g : Nat → Bool) (b : Nat) : Bool :=
  if o = 0 ∨ o = 1 then (if b / 4 = w ∨ b % 4 = v then (if b / 4 = w ∧ b % 4 = v then fr else !fr) else g b)
  else if o = 2 then (if b / 4 = w then g (4 * q + b % 4) else g b)
  else if o = 4 then (if b % 4 = v then g (4 * (b / 4) + a) else g b)
  else g b
/-- what is carried after an instruction, as the class reckons it -/
def ac_xa (o : Int32) (w v q a : Nat) (x : Int32) : Int32 :=
  if o = 0 ∨ o = 1 then ((x &&& (((15 : Int32) <<< (nI (4 * w) &&& 31)) ^^^ (-1))) &&& (((69905 : Int32) <<< (nI v &&& 31)) ^^^ (-1))) ||| ((1 : Int32) <<< (nI (4 * w + v) &&& 31))
  else if o = 2 then (x &&& (((15 : Int32) <<< (nI (4 * w) &&& 31)) ^^^ (-1))) ||| ((((x.toUInt32 >>> ((nI (4 * q)).toUInt32 &&& Int32.toUInt32 31)).toInt32) &&& 15) <<< (nI (4 * w) &&& 31))
  else if o = 4 then (x &&& (((69905 : Int32) <<< (nI v &&& 31)) ^^^ (-1))) ||| ((((x.toUInt32 >>> ((nI a).toUInt32 &&& Int32.toUInt32 31)).toInt32) &&& 69905) <<< (nI v &&& 31))
  else x
theorem ac_t1 : ∀ w, w < 5 → ∀ b, b < 32 → bt ((15 : Int32) <<< (nI (4 * w) &&& 31)) b = decide (b / 4 = w) := by decide +kernel
theorem ac_t2 : ∀ v, v < 4 → ∀ b, b < 32 → bt ((69905 : Int32) <<< (nI v &&& 31)) b = decide (b < 20 ∧ b % 4 = v) := by decide +kernel
theorem ac_t3 : ∀ w, w < 5 → ∀ v, v < 4 → ∀ b, b < 32 → bt ((1 : Int32) <<< (nI (4 * w + v) &&& 31)) b = decide (b / 4 = w ∧ b % 4 = v) := by decide +kernel
theorem ac_t4 : ∀ b, b < 32 → bt (15 : Int32) b = decide (b < 4) := by decide +kernel
theorem ac_t5 : ∀ b, b < 32 → bt (69905 : Int32) b = decide (b < 20 ∧ b % 4 = 0) := by decide +kernel
theorem ac_t6 : ∀ b, b < 32 → bt (1048575 : Int32) b = decide (b < 20) := by decide +kernel
theorem ac_t7 : ∀ b, b < 32 → bt (1 : Int32) b = decide (b = 0) := by decide +kernel
theorem ac_not (x : Int32) {b : Nat} (h : b < 32) : bt (x ^^^ (-1)) b = !bt x b := by
  rw [b_xor, b_m1 b h]; cases bt x b <;> rfl
theorem ac_xab {o : Int32} {w v q a : Nat} (hw : w < 5) (hv : v < 4) (hq : q < 5) (ha : a < 4) {x : Int32} (hx : ac_lo x) {b : Nat} (hb : b < 32) :
    bt (ac_xa o w v q a x) b = (decide (b < 20) && ac_nb o w v q a true (bt x) b) := by
  unfold ac_xa ac_nb
  by_cases h1 : o = 0 ∨ o = 1
  · rw [if_pos h1, if_pos h1, b_or, b_and, b_and, ac_not _ hb, ac_not _ hb, ac_t1 w hw b hb, ac_t2 v hv b hb, ac_t3 w hw v hv b hb]
    by_cases hb2 : b < 20
    · by_cases e1 : b / 4 = w <;> by_cases e2 : b % 4 = v <;> simp [e1, e2, hb2]
    · have e1 : ¬ b / 4 = w := by omega
      simp [e1, hb2, hx b (by omega)]
  · rw [if_neg h1, if_neg h1]
    by_cases h2 : o = 2
    · rw [if_pos h2, if_pos h2, b_or, b_and, ac_not _ hb, ac_t1 w hw b hb, b_shl (4 * w) (by omega) _ hb, b_and, b_ushr (4 * q) (by omega), ac_t4 (b - 4 * w) (by omega)]
      by_cases e1 : b / 4 = w
      · have e2 : 4 * w ≤ b := by omega
        have e3 : b - 4 * w = b % 4 := by omega
        have e4 : b % 4 < 4 := by omega
        have e5 : b < 20 := by omega
        simp [e1, e2, e3, e4, e5]
      · have e2 : ¬ (4 * w ≤ b ∧ b - 4 * w < 4) := by omega
        by_cases e3 : 4 * w ≤ b
        · have e4 : ¬ b - 4 * w < 4 := fun z => e2 ⟨e3, z⟩
          by_cases hb2 : b < 20
          · simp [e1, e4, hb2]
          · simp [e1, e4, hb2, hx b (by omega)]
        · by_cases hb2 : b < 20
          · simp [e1, e3, hb2]
          · simp [e1, e3, hb2, hx b (by omega)]
    · rw [if_neg h2, if_neg h2]
      by_cases h3 : o = 4
      · rw [if_pos h3, if_pos h3, b_or, b_and, ac_not _ hb, ac_t2 v hv b hb, b_shl v (by omega) _ hb, b_and, b_ushr a (by omega), ac_t5 (b - v) (by omega)]
        by_cases hb2 : b < 20
        · by_cases e1 : b % 4 = v
          · have e2 : v ≤ b := by omega
            have e3 : a + (b - v) = 4 * (b / 4) + a := by omega
            have e4 : b - v < 20 ∧ (b - v) % 4 = 0 := by omega
            simp [hb2, e1, e2, e3, e4]
          · by_cases e2 : v ≤ b
            · have e4 : ¬ (b - v < 20 ∧ (b - v) % 4 = 0) := by omega
              rw [decide_eq_false e4]
              simp [hb2, e1]
            · simp [hb2, e1, e2]
        · by_cases e2 : b - v < 20
          · have e4 : ¬ (b - v < 20 ∧ (b - v) % 4 = 0) := by omega
            rw [decide_eq_false e4]
            simp [hb2, hx b (by omega)]
          · simp [hb2, e2, hx b (by omega)]
      · rw [if_neg h3, if_neg h3]
        by_cases hb2 : b < 20
        · simp [hb2]
        · simp [hb2, hx b (by omega)]
theorem ac_xal {o : Int32} {w v q a : Nat} (hw : w < 5) (hv : v < 4) (hq : q < 5) (ha : a < 4) {x : Int32} (hx : ac_lo x) : ac_lo (ac_xa o w v q a x) := by
  intro b hb
  rcases Nat.lt_or_ge b 32 with h | h
  · rw [ac_xab hw hv hq ha hx h, decide_eq_false (by omega)]; rfl
  · exact b_big h
theorem ac_nbn {o : Int32} {w v q a : Nat} (hq : q < 5) (ha : a < 4) {g g' : Nat → Bool} (h : ∀ i, i < 20 → g i = !g' i) {b : Nat} (hb : b < 20) :
    ac_nb o w v q a false g b = !ac_nb o w v q a true g' b := by
  unfold ac_nb
  have h1 := h b hb
  have h2 := h (4 * q + b % 4) (by omega)
  have h3 := h (4 * (b / 4) + a) (by omega)
  rw [h1, h2, h3]
  repeat' split
  all_goals rfl
theorem ac_xm (x : Int32) {b : Nat} (h : b < 20) : bt (x ^^^ 1048575) b = !bt x b := by
  rw [b_xor, ac_t6 b (by omega), decide_eq_true h]; cases bt x b <;> rfl
theorem ac_xm2 (x : Int32) {b : Nat} (h : 20 ≤ b) : bt (x ^^^ 1048575) b = bt x b := by
  rcases Nat.lt_or_ge b 32 with h2 | h2
  · rw [b_xor, ac_t6 b h2, decide_eq_false (by omega)]; cases bt x b <;> rfl
  · rw [b_big h2, b_big h2]
theorem ac_xmm (x : Int32) : (x ^^^ 1048575) ^^^ 1048575 = x := by
  apply b_ext; intro b _
  rw [b_xor, b_xor]; cases bt x b <;> cases bt 1048575 b <;> rfl
theorem ac_xmi {x y : Int32} (h : x ^^^ 1048575 = y ^^^ 1048575) : x = y := by
  rw [← ac_xmm x, h, ac_xmm]
theorem ac_dm {x y : Int32} (hx : ac_lo x) (hy : ac_lo y) : (x ^^^ 1048575) ||| (y ^^^ 1048575) = (x &&& y) ^^^ 1048575 := by
  apply b_ext; intro b _
  rcases Nat.lt_or_ge b 20 with h | h
  · rw [b_or, ac_xm _ h, ac_xm _ h, ac_xm _ h, b_and]; cases bt x b <;> cases bt y b <;> rfl
  · rw [b_or, ac_xm2 _ h, ac_xm2 _ h, ac_xm2 _ h, b_and, hx b h, hy b h]; rfl
theorem ac_lo0 : ac_lo 0 := fun b _ => b_0 b
theorem ac_loA {x y : Int32} (hx : ac_lo x) : ac_lo (x &&& y) := fun b h => by rw [b_and, hx b h]; rfl
theorem ac_loO {x y : Int32} (hx : ac_lo x) (hy : ac_lo y) : ac_lo (x ||| y) := fun b h => by rw [b_or, hx b h, hy b h]; rfl
theorem ac_0or (x : Int32) : 0 ||| x = x := by
  apply b_ext; intro b _
  rw [b_or, b_0]; rfl
theorem ac_or0 {x y : Int32} : x ||| y = 0 ↔ x = 0 ∧ y = 0 := by
  constructor
  · intro h
    have hb : ∀ b, bt x b = false ∧ bt y b = false := by
      intro b
      have := b_or x y b
      rw [h, b_0] at this
      cases hx : bt x b <;> cases hy : bt y b <;> simp_all
    exact ⟨b_ext (fun b _ => by rw [(hb b).1, b_0]), b_ext (fun b _ => by rw [(hb b).2, b_0])⟩
  · rintro ⟨rfl, rfl⟩; exact ac_0or 0
theorem ac_one (y : Int32) {k : Nat} (hk : k < 32) {j : Nat} (hj : j < 32) : bt ((y >>> (nI k &&& 31)) &&& 1) j = (decide (j = 0) && bt y k) := by
  rw [b_and, ac_t7 j hj]
  by_cases h : j = 0
  · subst h
    rw [b_sshr k hk y hj, if_pos (by omega)]
    simp
  · simp [h]
theorem ac_sb (x : Int32) {k : Nat} (hk : k < 32) : ((x >>> (nI k &&& 31)) &&& 1) = 1 ↔ bt x k = true := by
  constructor
  · intro h
    have := ac_one x hk (j := 0) (by omega)
    rw [h, ac_t7 0 (by omega)] at this
    simpa using this.symm
  · intro h
    apply b_ext; intro b hb
    rw [ac_one x hk hb, h, ac_t7 b hb]; simp
theorem ac_ub (x : Int32) {k : Nat} (hk : k < 32) : (((x.toUInt32 >>> ((nI k).toUInt32 &&& Int32.toUInt32 31)).toInt32) &&& 1) = 1 ↔ bt x k = true := by
  constructor
  · intro h
    have := b_and ((x.toUInt32 >>> ((nI k).toUInt32 &&& Int32.toUInt32 31)).toInt32) 1 0
    rw [h, b_ushr k hk, ac_t7 0 (by omega)] at this
    simpa using this.symm
  · intro h
    apply b_ext; intro b hb
    rw [b_and, b_ushr k hk, ac_t7 b hb]
    by_cases e : b = 0
    · subst e; simp [h]
    · simp [e]
