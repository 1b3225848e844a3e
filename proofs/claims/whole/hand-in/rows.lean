section
theorem pk_us {f : Nat → Int32} {k : Nat} {x : Int32} : upd f k x k = x := if_pos rfl
theorem pk_un {f : Nat → Int32} {k j : Nat} {x : Int32} (h : j ≠ k) : upd f k x j = f j := if_neg h
theorem pk_sub {a b : Nat} (h : b ≤ a) : nI a - nI b = nI (a - b) := by
  obtain ⟨c, rfl⟩ : ∃ c, a = c + b := ⟨a - b, by omega⟩
  rw [← nI_add, Int32.add_sub_cancel, Nat.add_sub_cancel]
theorem pk_m1 (n : Nat) : nI (n + 1) + (-1) = nI n := by
  rw [← nI_1, Int32.add_assoc, show (1 : Int32) + (-1) = 0 from rfl, Int32.add_zero]
theorem pk_mul (a b : Nat) : nI a * nI b = nI (a * b) := (Int32.ofNat_mul a b).symm
theorem pk_div {a d : Nat} (ha : a < 2 ^ 31) (h0 : 0 < d) (hd : d < 2 ^ 31) : nI a / nI d = nI (a / d) := by
  apply Int32.toInt_inj.mp
  rw [lg_idiv_nonneg (by rw [nI_toInt ha]; omega) (by rw [nI_toInt hd]; omega), nI_toInt ha, nI_toInt hd, nI_toInt (Nat.lt_of_le_of_lt (Nat.div_le_self a d) ha)]
  first | rfl | exact (Int.natCast_ediv _ _).symm
theorem pk_rem {a d : Nat} (ha : a < 2 ^ 31) (h0 : 0 < d) (hd : d < 2 ^ 31) : nI a - nI a / nI d * nI d = nI (a % d) := by
  rw [pk_div ha h0 hd, pk_mul, pk_sub (Nat.div_mul_le_self a d)]
  exact congrArg nI (by have := Nat.div_add_mod' a d; omega)
theorem pk_ix (x : Int32) {n : Nat} (hn : n < 2 ^ 31) : x < 0 ∨ nI n ≤ x ∨ ∃ j : Nat, j < n ∧ x = nI j := by
  by_cases h : x < 0
  · exact Or.inl h
  · obtain ⟨j, hj, rfl⟩ := nI_of h
    by_cases h2 : j < n
    · exact Or.inr (Or.inr ⟨j, h2, rfl⟩)
    · exact Or.inr (Or.inl (nI_le (by omega) hj))
theorem pk_le {x y : Int32} {A B : Prop} (a b : Nat) (f : a ≤ b → A) (g : b < a → B) (hx : x = nI a := by rfl) (hy : y = nI b := by rfl) (ha : a < 2 ^ 31 := by omega) (hb : b < 2 ^ 31 := by omega) : (x ≤ y → A) ∧ (¬ x ≤ y → B) := by
  subst hx hy
  rw [nI_leI ha hb]
  exact ⟨f, fun z => g (by omega)⟩
theorem pk_lt {x y : Int32} {A B : Prop} (a b : Nat) (f : a < b → A) (g : b ≤ a → B) (hx : x = nI a := by rfl) (hy : y = nI b := by rfl) (ha : a < 2 ^ 31 := by omega) (hb : b < 2 ^ 31 := by omega) : (x < y → A) ∧ (¬ x < y → B) := by
  subst hx hy
  rw [nI_ltI ha hb]
  exact ⟨f, fun z => g (by omega)⟩
theorem pk_eq {x y : Int32} {A B : Prop} (a b : Nat) (f : a = b → A) (g : a ≠ b → B) (hx : x = nI a := by rfl) (hy : y = nI b := by rfl) (ha : a < 2 ^ 31 := by omega) (hb : b < 2 ^ 31 := by omega) : (x = y → A) ∧ (¬ x = y → B) := by
  subst hx hy
  rw [nI_eq ha hb]
  exact ⟨f, g⟩
theorem pk_in {x : Int32} (n N : Nat) (h : n < N) (hx : x = nI n := by rfl) (hN : N < 2 ^ 31 := by omega) : vp_in x N := by
  subst hx
  exact vp_in_nI h hN
theorem pk_cl {x : Int32} (n : Nat) (hx : x = nI n := by rfl) (h : n < 2 ^ 31 := by omega) : x.toNatClampNeg = n := by
  subst hx
  exact nI_clamp h
theorem pk_tn {n : Nat} (h : n < 2 ^ 32) : (nI n).toBitVec.toNat = n := Nat.mod_eq_of_lt h
theorem pk_and (x : Int32) {m : Int32} (k : Nat) (hm : m.toBitVec.toNat = 2 ^ k - 1) : x &&& m = nI (x.toBitVec.toNat % 2 ^ k) := by
  apply Int32.toBitVec_inj.mp
  apply BitVec.eq_of_toNat_eq
  rw [Int32.toBitVec_and, BitVec.toNat_and, hm, Nat.and_two_pow_sub_one_eq_mod]
  show _ = (BitVec.ofNat 32 _).toNat
  rw [BitVec.toNat_ofNat]
  exact (Nat.mod_eq_of_lt (Nat.lt_of_le_of_lt (Nat.mod_le _ _) x.toBitVec.isLt)).symm
theorem pk_andN {n : Nat} (h : n < 2 ^ 32) {m : Int32} (k : Nat) (hm : m.toBitVec.toNat = 2 ^ k - 1) : nI n &&& m = nI (n % 2 ^ k) := by
  rw [pk_and _ k hm, pk_tn h]
theorem pk_andE (x : Int32) {m : Int32} (k : Nat) (hm : m.toBitVec.toNat = 2 ^ k - 1) : ∃ j : Nat, j < 2 ^ k ∧ x &&& m = nI j := ⟨_, Nat.mod_lt _ (Nat.two_pow_pos k), pk_and x k hm⟩
theorem pk_andIn (x : Int32) {m : Int32} (k : Nat) (hm : m.toBitVec.toNat = 2 ^ k - 1) (hk : k ≤ 30) : vp_in (x &&& m) (2 ^ k) := by
  obtain ⟨j, hj, e⟩ := pk_andE x k hm
  rw [e]
  exact vp_in_nI hj (Nat.lt_of_le_of_lt (Nat.pow_le_pow_right (by decide) hk) (by decide))
theorem pk_shl (a s : Int32) (k : Nat) (hs : (s.toBitVec.smod 32).toNat = k) : (a <<< s).toBitVec.toNat = a.toBitVec.toNat * 2 ^ k % 2 ^ 32 := by
  show (a.toBitVec <<< (s.toBitVec.smod 32).toNat).toNat = _
  rw [hs, BitVec.toNat_shiftLeft, Nat.shiftLeft_eq]
theorem pk_shlN {n : Nat} (s : Int32) (k : Nat) (hs : (s.toBitVec.smod 32).toNat = k) (h : n * 2 ^ k < 2 ^ 32) : nI n <<< s = nI (n * 2 ^ k) := by
  apply Int32.toBitVec_inj.mp
  apply BitVec.eq_of_toNat_eq
  have hn : n < 2 ^ 32 := Nat.lt_of_le_of_lt (Nat.le_mul_of_pos_right n (Nat.two_pow_pos k)) h
  rw [pk_shl _ _ k hs, pk_tn hn, pk_tn h, Nat.mod_eq_of_lt h]
theorem pk_shr (a s : Int32) (k : Nat) (hs : (s.toBitVec.smod 32).toNat = k) : (a >>> s).toInt = a.toInt >>> k := by
  show (a.toBitVec.sshiftRight (s.toBitVec.smod 32).toNat).toInt = _
  rw [hs, BitVec.toInt_sshiftRight]
  rfl
theorem pk_shrN {n : Nat} (h : n < 2 ^ 31) (s : Int32) (k : Nat) (hs : (s.toBitVec.smod 32).toNat = k) : nI n >>> s = nI (n / 2 ^ k) := by
  apply Int32.toInt_inj.mp
  have h2 : n / 2 ^ k ≤ n := Nat.div_le_self _ _
  rw [pk_shr _ _ k hs, nI_toInt h, nI_toInt (by omega), Int.shiftRight_eq_div_pow]
  rfl
def bt (x : Int32) (i : Nat) : Bool := x.toBitVec.getLsbD i
theorem b_ext {x y : Int32} (h : ∀ i, i < 32 → bt x i = bt y i) : x = y := Int32.toBitVec_inj.mp (BitVec.eq_of_getLsbD_eq (fun i hi => h i hi))
theorem b_or (x y : Int32) (i : Nat) : bt (x ||| y) i = (bt x i || bt y i) := by unfold bt; rw [Int32.toBitVec_or, BitVec.getLsbD_or]
theorem b_and (x y : Int32) (i : Nat) : bt (x &&& y) i = (bt x i && bt y i) := by unfold bt; rw [Int32.toBitVec_and, BitVec.getLsbD_and]
theorem b_xor (x y : Int32) (i : Nat) : bt (x ^^^ y) i = (bt x i ^^ bt y i) := by unfold bt; rw [Int32.toBitVec_xor, BitVec.getLsbD_xor]
theorem b_big {x : Int32} {i : Nat} (h : 32 ≤ i) : bt x i = false := BitVec.getLsbD_of_ge _ _ h
theorem b_m1 : ∀ i, i < 32 → bt (-1) i = true := by decide +kernel
theorem b_0 (i : Nat) : bt 0 i = false := BitVec.getLsbD_zero
theorem s_l : ∀ n, n < 32 → ((nI n &&& 31).toBitVec.smod 32).toNat = n := by decide +kernel
theorem s_u : ∀ n, n < 32 → (((nI n).toUInt32 &&& Int32.toUInt32 31).toBitVec % 32).toNat = n := by decide +kernel
theorem b_shl (n : Nat) (hn : n < 32) (x : Int32) {i : Nat} (hi : i < 32) : bt (x <<< (nI n &&& 31)) i = (decide (n ≤ i) && bt x (i - n)) := by
  unfold bt
  rw [Int32.toBitVec_shiftLeft]
  show (x.toBitVec <<< ((nI n &&& 31).toBitVec.smod 32).toNat).getLsbD i = _
  rw [s_l n hn, BitVec.getLsbD_shiftLeft]
  rcases Nat.lt_or_ge i n with h | h
  · simp [h, Nat.not_le.mpr h]
  · simp [hi, h, Nat.not_lt.mpr h]
theorem b_ushr (n : Nat) (hn : n < 32) (x : Int32) (i : Nat) : bt ((x.toUInt32 >>> ((nI n).toUInt32 &&& Int32.toUInt32 31)).toInt32) i = bt x (n + i) := by
  show (x.toUInt32 >>> ((nI n).toUInt32 &&& Int32.toUInt32 31)).toBitVec.getLsbD i = x.toUInt32.toBitVec.getLsbD (n + i)
  rw [UInt32.toBitVec_shiftRight]
  show (x.toUInt32.toBitVec >>> (((nI n).toUInt32 &&& Int32.toUInt32 31).toBitVec % 32).toNat).getLsbD i = _
  rw [s_u n hn, BitVec.getLsbD_ushiftRight]
theorem b_sshr (n : Nat) (hn : n < 32) (x : Int32) {i : Nat} (hi : i < 32) : bt (x >>> (nI n &&& 31)) i = if n + i < 32 then bt x (n + i) else bt x 31 := by
  unfold bt
  rw [Int32.toBitVec_shiftRight]
  show (x.toBitVec.sshiftRight ((nI n &&& 31).toBitVec.smod 32).toNat).getLsbD i = _
  rw [s_l n hn, BitVec.getLsbD_sshiftRight, BitVec.msb_eq_getLsbD_last]
  simp [hi]
end
section
/-- bits 20 and above are 0 -/
def ac_lo (x : Int32) : Prop := ∀ b, 20 ≤ b → bt x b = false
/-- one bit after an instruction: w written place, v written value, q first place, a first value -/
def ac_nb (o : Int32) (w v q a : Nat) (fr : Bool) (g : Nat → Bool) (b : Nat) : Bool :=
  if o = 0 ∨ o = 1 then (if b / 4 = w ∨ b % 4 = v then (if b / 4 = w ∧ b % 4 = v then fr else !fr) else g b)
  else if o = 2 then (if b / 4 = w then g (4 * q + b % 4) else g b)
  else if o = 4 then (if b % 4 = v then g (4 * (b / 4) + a) else g b)
  else g b
/-- what is carried after an instruction, as the class reckons it -/
def ac_xa (o : Int32) (w v q a : Nat) (x : Int32) : Int32 :=
  if o = 0 ∨ o = 1 then ((x &&& (((15 : Int32) <<< (nI (4 * w) &&& 31)) ^^^ (-1))) &&& (((69905 : Int32) <<< (nI v &&& 31)) ^^^ (-1))) ||| ((1 : Int32) <<< (nI (4 * w + v) &&& 31))
  else if o = 2 then (x &&& (((15 : Int32) <<< (nI (4 * w) &&& 31)) ^^^ (-1))) ||| ((((x.toUInt32 >>> ((nI (4 * q)).toUInt32 &&& Int32.toUInt32 31)).toInt32) &&& 15) <<< (nI (4 * w) &&& 31))
  else if o = 4 then (x &&& (((69905 : Int32) <<< (nI v &&& 31)) ^^^ (-1))) ||| ((((x.toUInt32 >>> ((nI a).toUInt32 &&& Int32.toUInt32 31)).toInt32) &&& 69905) <<< (nI v &&& 31))
  else x
theorem ac_t1 : ∀ w, w < 5 → ∀ b, b < 32 → bt ((15 : Int32) <<< (nI (4 * w) &&& 31)) b = decide (b / 4 = w) := by decide +kernel
theorem ac_t2 : ∀ v, v < 4 → ∀ b, b < 32 → bt ((69905 : Int32) <<< (nI v &&& 31)) b = decide (b < 20 ∧ b % 4 = v) := by decide +kernel
theorem ac_t3 : ∀ w, w < 5 → ∀ v, v < 4 → ∀ b, b < 32 → bt ((1 : Int32) <<< (nI (4 * w + v) &&& 31)) b = decide (b / 4 = w ∧ b % 4 = v) := by decide +kernel
theorem ac_t4 : ∀ b, b < 32 → bt (15 : Int32) b = decide (b < 4) := by decide +kernel
theorem ac_t5 : ∀ b, b < 32 → bt (69905 : Int32) b = decide (b < 20 ∧ b % 4 = 0) := by decide +kernel
theorem ac_t6 : ∀ b, b < 32 → bt (1048575 : Int32) b = decide (b < 20) := by decide +kernel
theorem ac_t7 : ∀ b, b < 32 → bt (1 : Int32) b = decide (b = 0) := by decide +kernel
theorem ac_not (x : Int32) {b : Nat} (h : b < 32) : bt (x ^^^ (-1)) b = !bt x b := by
  rw [b_xor, b_m1 b h]; cases bt x b <;> rfl
theorem ac_xab {o : Int32} {w v q a : Nat} (hw : w < 5) (hv : v < 4) (hq : q < 5) (ha : a < 4) {x : Int32} (hx : ac_lo x) {b : Nat} (hb : b < 32) :
    bt (ac_xa o w v q a x) b = (decide (b < 20) && ac_nb o w v q a true (bt x) b) := by
  unfold ac_xa ac_nb
  by_cases h1 : o = 0 ∨ o = 1
  · rw [if_pos h1, if_pos h1, b_or, b_and, b_and, ac_not _ hb, ac_not _ hb, ac_t1 w hw b hb, ac_t2 v hv b hb, ac_t3 w hw v hv b hb]
    by_cases hb2 : b < 20
    · by_cases e1 : b / 4 = w <;> by_cases e2 : b % 4 = v <;> simp [e1, e2, hb2]
    · have e1 : ¬ b / 4 = w := by omega
      simp [e1, hb2, hx b (by omega)]
  · rw [if_neg h1, if_neg h1]
    by_cases h2 : o = 2
    · rw [if_pos h2, if_pos h2, b_or, b_and, ac_not _ hb, ac_t1 w hw b hb, b_shl (4 * w) (by omega) _ hb, b_and, b_ushr (4 * q) (by omega), ac_t4 (b - 4 * w) (by omega)]
      by_cases e1 : b / 4 = w
      · have e2 : 4 * w ≤ b := by omega
        have e3 : b - 4 * w = b % 4 := by omega
        have e4 : b % 4 < 4 := by omega
        have e5 : b < 20 := by omega
        simp [e1, e2, e3, e4, e5]
      · have e2 : ¬ (4 * w ≤ b ∧ b - 4 * w < 4) := by omega
        by_cases e3 : 4 * w ≤ b
        · have e4 : ¬ b - 4 * w < 4 := fun z => e2 ⟨e3, z⟩
          by_cases hb2 : b < 20
          · simp [e1, e4, hb2]
          · simp [e1, e4, hb2, hx b (by omega)]
        · by_cases hb2 : b < 20
          · simp [e1, e3, hb2]
          · simp [e1, e3, hb2, hx b (by omega)]
    · rw [if_neg h2, if_neg h2]
      by_cases h3 : o = 4
      · rw [if_pos h3, if_pos h3, b_or, b_and, ac_not _ hb, ac_t2 v hv b hb, b_shl v (by omega) _ hb, b_and, b_ushr a (by omega), ac_t5 (b - v) (by omega)]
        by_cases hb2 : b < 20
        · by_cases e1 : b % 4 = v
          · have e2 : v ≤ b := by omega
            have e3 : a + (b - v) = 4 * (b / 4) + a := by omega
            have e4 : b - v < 20 ∧ (b - v) % 4 = 0 := by omega
            simp [hb2, e1, e2, e3, e4]
          · by_cases e2 : v ≤ b
            · have e4 : ¬ (b - v < 20 ∧ (b - v) % 4 = 0) := by omega
              rw [decide_eq_false e4]
              simp [hb2, e1]
            · simp [hb2, e1, e2]
        · by_cases e2 : b - v < 20
          · have e4 : ¬ (b - v < 20 ∧ (b - v) % 4 = 0) := by omega
            rw [decide_eq_false e4]
            simp [hb2, hx b (by omega)]
          · simp [hb2, e2, hx b (by omega)]
      · rw [if_neg h3, if_neg h3]
        by_cases hb2 : b < 20
        · simp [hb2]
        · simp [hb2, hx b (by omega)]
theorem ac_xal {o : Int32} {w v q a : Nat} (hw : w < 5) (hv : v < 4) (hq : q < 5) (ha : a < 4) {x : Int32} (hx : ac_lo x) : ac_lo (ac_xa o w v q a x) := by
  intro b hb
  rcases Nat.lt_or_ge b 32 with h | h
  · rw [ac_xab hw hv hq ha hx h, decide_eq_false (by omega)]; rfl
  · exact b_big h
theorem ac_nbn {o : Int32} {w v q a : Nat} (hq : q < 5) (ha : a < 4) {g g' : Nat → Bool} (h : ∀ i, i < 20 → g i = !g' i) {b : Nat} (hb : b < 20) :
    ac_nb o w v q a false g b = !ac_nb o w v q a true g' b := by
  unfold ac_nb
  have h1 := h b hb
  have h2 := h (4 * q + b % 4) (by omega)
  have h3 := h (4 * (b / 4) + a) (by omega)
  rw [h1, h2, h3]
  repeat' split
  all_goals rfl
theorem ac_xm (x : Int32) {b : Nat} (h : b < 20) : bt (x ^^^ 1048575) b = !bt x b := by
  rw [b_xor, ac_t6 b (by omega), decide_eq_true h]; cases bt x b <;> rfl
theorem ac_xm2 (x : Int32) {b : Nat} (h : 20 ≤ b) : bt (x ^^^ 1048575) b = bt x b := by
  rcases Nat.lt_or_ge b 32 with h2 | h2
  · rw [b_xor, ac_t6 b h2, decide_eq_false (by omega)]; cases bt x b <;> rfl
  · rw [b_big h2, b_big h2]
theorem ac_xmm (x : Int32) : (x ^^^ 1048575) ^^^ 1048575 = x := by
  apply b_ext; intro b _
  rw [b_xor, b_xor]; cases bt x b <;> cases bt 1048575 b <;> rfl
theorem ac_xmi {x y : Int32} (h : x ^^^ 1048575 = y ^^^ 1048575) : x = y := by
  rw [← ac_xmm x, h, ac_xmm]
theorem ac_dm {x y : Int32} (hx : ac_lo x) (hy : ac_lo y) : (x ^^^ 1048575) ||| (y ^^^ 1048575) = (x &&& y) ^^^ 1048575 := by
  apply b_ext; intro b _
  rcases Nat.lt_or_ge b 20 with h | h
  · rw [b_or, ac_xm _ h, ac_xm _ h, ac_xm _ h, b_and]; cases bt x b <;> cases bt y b <;> rfl
  · rw [b_or, ac_xm2 _ h, ac_xm2 _ h, ac_xm2 _ h, b_and, hx b h, hy b h]; rfl
theorem ac_lo0 : ac_lo 0 := fun b _ => b_0 b
theorem ac_loA {x y : Int32} (hx : ac_lo x) : ac_lo (x &&& y) := fun b h => by rw [b_and, hx b h]; rfl
theorem ac_loO {x y : Int32} (hx : ac_lo x) (hy : ac_lo y) : ac_lo (x ||| y) := fun b h => by rw [b_or, hx b h, hy b h]; rfl
theorem ac_0or (x : Int32) : 0 ||| x = x := by
  apply b_ext; intro b _
  rw [b_or, b_0]; rfl
theorem ac_or0 {x y : Int32} : x ||| y = 0 ↔ x = 0 ∧ y = 0 := by
  constructor
  · intro h
    have hb : ∀ b, bt x b = false ∧ bt y b = false := by
      intro b
      have := b_or x y b
      rw [h, b_0] at this
      cases hx : bt x b <;> cases hy : bt y b <;> simp_all
    exact ⟨b_ext (fun b _ => by rw [(hb b).1, b_0]), b_ext (fun b _ => by rw [(hb b).2, b_0])⟩
  · rintro ⟨rfl, rfl⟩; exact ac_0or 0
theorem ac_one (y : Int32) {k : Nat} (hk : k < 32) {j : Nat} (hj : j < 32) : bt ((y >>> (nI k &&& 31)) &&& 1) j = (decide (j = 0) && bt y k) := by
  rw [b_and, ac_t7 j hj]
  by_cases h : j = 0
  · subst h
    rw [b_sshr k hk y hj, if_pos (by omega)]
    simp
  · simp [h]
theorem ac_sb (x : Int32) {k : Nat} (hk : k < 32) : ((x >>> (nI k &&& 31)) &&& 1) = 1 ↔ bt x k = true := by
  constructor
  · intro h
    have := ac_one x hk (j := 0) (by omega)
    rw [h, ac_t7 0 (by omega)] at this
    simpa using this.symm
  · intro h
    apply b_ext; intro b hb
    rw [ac_one x hk hb, h, ac_t7 b hb]; simp
theorem ac_ub (x : Int32) {k : Nat} (hk : k < 32) : (((x.toUInt32 >>> ((nI k).toUInt32 &&& Int32.toUInt32 31)).toInt32) &&& 1) = 1 ↔ bt x k = true := by
  constructor
  · intro h
    have := b_and ((x.toUInt32 >>> ((nI k).toUInt32 &&& Int32.toUInt32 31)).toInt32) 1 0
    rw [h, b_ushr k hk, ac_t7 0 (by omega)] at this
    simpa using this.symm
  · intro h
    apply b_ext; intro b hb
    rw [b_and, b_ushr k hk, ac_t7 b hb]
    by_cases e : b = 0
    · subst e; simp [h]
    · simp [e]
end
section
abbrev ac_T : Type := (Nat → Int32) × (Nat → Int32) × (Nat → Int32)
abbrev ac_n (f : Nat → Int32) (i : Nat) : Nat := (f i).toNatClampNeg
def ac_bI (f : Bool) : Int32 := if f then 1 else 0
def ac_In (N : Nat) (f : Nat → Int32) : Prop := ∀ i, ∃ j, j < N ∧ f i = nI j
theorem ac_InU {N : Nat} {f : Nat → Int32} (h : ac_In N f) {k : Nat} {x : Int32} {j : Nat} (hj : j < N) (e : x = nI j) : ac_In N (upd f k x) := by
  intro i
  by_cases z : i = k
  · exact ⟨j, hj, by rw [z, pk_us, e]⟩
  · rw [pk_un z]; exact h i
theorem ac_In0 {N : Nat} (h : 0 < N) : ac_In N (fun _ => 0) := fun _ => ⟨0, h, rfl⟩
theorem ac_InN {N : Nat} {f : Nat → Int32} (h : ac_In N f) (hN : N < 2 ^ 31) (i : Nat) : ac_n f i < N ∧ f i = nI (ac_n f i) := by
  obtain ⟨j, hj, e⟩ := h i
  have e2 : ac_n f i = j := by unfold ac_n; rw [e, nI_clamp (by omega)]
  rw [e2]; exact ⟨hj, e⟩
/-- a position is told what is carried on a way to it -/
def ac_arr (s : ac_T) (q : Nat) (a b : Int32) : ac_T × Bool :=
  if s.1 q = 0 then ((upd s.1 q 1, upd s.2.1 q a, upd s.2.2 q b), true)
  else ((s.1, upd s.2.1 q (s.2.1 q &&& a), upd s.2.2 q (s.2.2 q ||| b)), decide (¬ (s.2.1 q &&& a = s.2.1 q ∧ s.2.2 q ||| b = s.2.2 q)))
section
variable (op v0 v1 p0 p1 nu : Nat → Int32) (c : Nat)
def ac_af (p : Nat) (x : Int32) : Int32 := ac_xa (op p) (ac_n p0 p) (ac_n v0 p) (ac_n p1 p) (ac_n v1 p) x
def ac_g1 (p : Nat) (s : ac_T) : ac_T × Bool :=
  if op p ≠ 6 ∧ op p ≠ 7 ∧ p + 1 < c then ac_arr s (p + 1) (ac_af op v0 v1 p0 p1 p (s.2.1 p)) (ac_af op v0 v1 p0 p1 p (s.2.2 p)) else (s, false)
def ac_g2 (p : Nat) (a b : Int32) (s : ac_T) : ac_T × Bool :=
  if (op p = 5 ∨ op p = 6) ∧ ¬ nu p < 0 ∧ ¬ nI c ≤ nu p then ac_arr s (nu p).toNatClampNeg a b else (s, false)
def ac_go (p : Nat) (s : ac_T) : ac_T × Bool :=
  ((ac_g2 op nu c p (ac_af op v0 v1 p0 p1 p (s.2.1 p)) (ac_af op v0 v1 p0 p1 p (s.2.2 p)) (ac_g1 op v0 v1 p0 p1 c p s).1).1,
   (ac_g1 op v0 v1 p0 p1 c p s).2 || (ac_g2 op nu c p (ac_af op v0 v1 p0 p1 p (s.2.1 p)) (ac_af op v0 v1 p0 p1 p (s.2.2 p)) (ac_g1 op v0 v1 p0 p1 c p s).1).2)
def ac_ps : Nat → Nat → ac_T → Bool → ac_T × Bool
  | 0, _, s, f => (s, f)
  | d + 1, p, s, f => if s.1 p = 0 then ac_ps d (p + 1) s f else ac_ps d (p + 1) (ac_go op v0 v1 p0 p1 nu c p s).1 (f || (ac_go op v0 v1 p0 p1 nu c p s).2)
def ac_F (s : ac_T) : ac_T × Bool := ac_ps op v0 v1 p0 p1 nu c c 0 s false
end
def ac_it (F : ac_T → ac_T × Bool) : Nat → ac_T → ac_T
  | 0, s => s
  | n + 1, s => if (F s).2 = true then ac_it F n (F s).1 else (F s).1
/-- the start of all walks -/
def ac_Ini (c : Nat) (s : ac_T) : Prop := (∀ i, i < 14 → s.1 i = if i = 0 ∧ 0 < c then 1 else 0) ∧ (0 < c → s.2.1 0 = 0 ∧ s.2.2 0 = 0)
/-! the measure -/
def ac_cn (g : Nat → Bool) : Nat → Nat
  | 0 => 0
  | n + 1 => ac_cn g n + (if g n = true then 1 else 0)
theorem ac_cn_le (g : Nat → Bool) : ∀ n, ac_cn g n ≤ n := by
  intro n
  induction n with
  | zero => exact Nat.le_refl _
  | succ n ih => unfold ac_cn; split <;> omega
theorem ac_cn_mo {g h : Nat → Bool} : ∀ n, (∀ b, b < n → g b = true → h b = true) → ac_cn g n ≤ ac_cn h n := by
  intro n
  induction n with
  | zero => intro _; exact Nat.le_refl _
  | succ n ih =>
    intro H
    have i1 := ih (fun b hb => H b (by omega))
    have i2 := H n (by omega)
    unfold ac_cn
    by_cases e : g n = true
    · rw [if_pos e, if_pos (i2 e)]; omega
    · rw [if_neg e]; omega
theorem ac_cn_st {g h : Nat → Bool} : ∀ n, (∀ b, b < n → g b = true → h b = true) → (∃ b, b < n ∧ g b = false ∧ h b = true) → ac_cn g n + 1 ≤ ac_cn h n := by
  intro n
  induction n with
  | zero => intro _ ⟨b, hb, _⟩; omega
  | succ n ih =>
    intro H ⟨b, hb, hg, hh⟩
    by_cases e : b = n
    · subst e
      have i1 := ac_cn_mo b (fun x hx => H x (by omega))
      unfold ac_cn
      rw [hg, hh]; simp; omega
    · have i1 := ih (fun x hx => H x (by omega)) ⟨b, by omega, hg, hh⟩
      have i2 := H n (by omega)
      unfold ac_cn
      by_cases e : g n = true
      · rw [if_pos e, if_pos (i2 e)]; omega
      · rw [if_neg e]; omega
def ac_m3 (r x y : Int32) : Nat := if r = 0 then 0 else 1 + ac_cn (fun b => !bt x b) 20 + ac_cn (bt y) 20
def ac_m1 (s : ac_T) (i : Nat) : Nat := ac_m3 (s.1 i) (s.2.1 i) (s.2.2 i)
def ac_mu (s : ac_T) : Nat → Nat
  | 0 => 0
  | n + 1 => ac_mu s n + ac_m1 s n
theorem ac_mu_le (s : ac_T) : ∀ n, ac_mu s n ≤ 41 * n := by
  intro n
  induction n with
  | zero => exact Nat.le_refl _
  | succ n ih =>
    have i1 := ac_cn_le (fun b => !bt (s.2.1 n) b) 20
    have i2 := ac_cn_le (bt (s.2.2 n)) 20
    have i3 : ac_m1 s n ≤ 41 := by unfold ac_m1 ac_m3; split <;> omega
    unfold ac_mu; omega
theorem ac_mu_mo {s t : ac_T} : ∀ n, (∀ i, i < n → ac_m1 s i ≤ ac_m1 t i) → ac_mu s n ≤ ac_mu t n := by
  intro n
  induction n with
  | zero => intro _; exact Nat.le_refl _
  | succ n ih =>
    intro H
    have i1 := ih (fun i hi => H i (by omega))
    have i2 := H n (by omega)
    unfold ac_mu; omega
theorem ac_mu_st {s t : ac_T} {q : Nat} (hq : ac_m1 s q + 1 ≤ ac_m1 t q) : ∀ n, (∀ i, i < n → ac_m1 s i ≤ ac_m1 t i) → q < n → ac_mu s n + 1 ≤ ac_mu t n := by
  intro n
  induction n with
  | zero => intro _ h; omega
  | succ n ih =>
    intro H h
    have i2 := H n (by omega)
    by_cases e : q = n
    · subst e
      have i1 := ac_mu_mo q (fun i hi => H i (by omega))
      unfold ac_mu; omega
    · have i1 := ih (fun i hi => H i (by omega)) (by omega)
      unfold ac_mu; omega
def ac_Ok (s : ac_T) : Prop := ∀ i, i < 14 → s.1 i ≠ 0 → ac_lo (s.2.1 i) ∧ ac_lo (s.2.2 i)
def ac_Gr (s : ac_T) (r : ac_T × Bool) : Prop := ac_Ok r.1 ∧ ac_mu s 14 ≤ ac_mu r.1 14 ∧ (r.2 = true → ac_mu s 14 + 1 ≤ ac_mu r.1 14)
theorem ac_updSelf (f : Nat → Int32) (q : Nat) : upd f q (f q) = f := by
  funext j
  by_cases e : j = q
  · rw [e, pk_us]
  · rw [pk_un e]
theorem ac_bex {x y : Int32} (hx : ac_lo x) (hy : ac_lo y) (h : x ≠ y) : ∃ b, b < 20 ∧ bt x b ≠ bt y b := by
  apply Classical.byContradiction
  intro z
  apply h
  apply b_ext
  intro b _
  rcases Nat.lt_or_ge b 20 with h2 | h2
  · apply Classical.byContradiction
    intro z2
    exact z ⟨b, h2, z2⟩
  · rw [hx b h2, hy b h2]
theorem ac_arrOk {s : ac_T} (hs : ac_Ok s) {q : Nat} (hq : q < 14) {a b : Int32} (ha : ac_lo a) (hb : ac_lo b) : ac_Gr s (ac_arr s q a b) := by
  unfold ac_arr
  by_cases h0 : s.1 q = 0
  · rw [if_pos h0]
    have hm : ∀ i, i ≠ q → ac_m1 (upd s.1 q 1, upd s.2.1 q a, upd s.2.2 q b) i = ac_m1 s i := by
      intro i hi
      show ac_m3 (upd s.1 q 1 i) (upd s.2.1 q a i) (upd s.2.2 q b i) = ac_m3 (s.1 i) (s.2.1 i) (s.2.2 i)
      rw [pk_un hi, pk_un hi, pk_un hi]
    have h1 : ac_m1 s q = 0 := by unfold ac_m1 ac_m3; rw [if_pos h0]
    have h2 : 1 ≤ ac_m1 (upd s.1 q 1, upd s.2.1 q a, upd s.2.2 q b) q := by
      show 1 ≤ ac_m3 (upd s.1 q 1 q) (upd s.2.1 q a q) (upd s.2.2 q b q)
      rw [pk_us]
      unfold ac_m3
      rw [if_neg (by decide)]; omega
    have h3 : ∀ i, i < 14 → ac_m1 s i ≤ ac_m1 (upd s.1 q 1, upd s.2.1 q a, upd s.2.2 q b) i := by
      intro i _
      by_cases e : i = q
      · subst e; omega
      · rw [hm i e]; exact Nat.le_refl _
    refine ⟨?_, ac_mu_mo 14 h3, fun _ => ac_mu_st (q := q) (by rw [h1]; exact h2) 14 h3 hq⟩
    intro i hi hne
    dsimp only at hne ⊢
    by_cases e : i = q
    · subst e; rw [pk_us, pk_us]; exact ⟨ha, hb⟩
    · rw [pk_un e] at hne
      rw [pk_un e, pk_un e]; exact hs i hi hne
  · rw [if_neg h0]
    obtain ⟨l1, l2⟩ := hs q hq h0
    have hm : ∀ i, i ≠ q → ac_m1 (s.1, upd s.2.1 q (s.2.1 q &&& a), upd s.2.2 q (s.2.2 q ||| b)) i = ac_m1 s i := by
      intro i hi
      show ac_m3 (s.1 i) (upd s.2.1 q (s.2.1 q &&& a) i) (upd s.2.2 q (s.2.2 q ||| b) i) = ac_m3 (s.1 i) (s.2.1 i) (s.2.2 i)
      rw [pk_un hi, pk_un hi]
    have c1 : ac_cn (fun b => !bt (s.2.1 q) b) 20 ≤ ac_cn (fun b => !bt (s.2.1 q &&& a) b) 20 := by
      apply ac_cn_mo
      intro x _
      rw [b_and]; cases bt (s.2.1 q) x <;> simp
    have c2 : ac_cn (bt (s.2.2 q)) 20 ≤ ac_cn (bt (s.2.2 q ||| b)) 20 := by
      apply ac_cn_mo
      intro x _
      rw [b_or]; cases bt (s.2.2 q) x <;> simp
    have e1 : ac_m1 s q = 1 + ac_cn (fun b => !bt (s.2.1 q) b) 20 + ac_cn (bt (s.2.2 q)) 20 := by unfold ac_m1 ac_m3; rw [if_neg h0]
    have e2 : ac_m1 (s.1, upd s.2.1 q (s.2.1 q &&& a), upd s.2.2 q (s.2.2 q ||| b)) q = 1 + ac_cn (fun x => !bt (s.2.1 q &&& a) x) 20 + ac_cn (bt (s.2.2 q ||| b)) 20 := by
      show ac_m3 (s.1 q) (upd s.2.1 q (s.2.1 q &&& a) q) (upd s.2.2 q (s.2.2 q ||| b) q) = _
      rw [pk_us, pk_us]
      unfold ac_m3
      rw [if_neg h0]
    have h3 : ∀ i, i < 14 → ac_m1 s i ≤ ac_m1 (s.1, upd s.2.1 q (s.2.1 q &&& a), upd s.2.2 q (s.2.2 q ||| b)) i := by
      intro i _
      by_cases e : i = q
      · subst e; omega
      · rw [hm i e]; exact Nat.le_refl _
    refine ⟨?_, ac_mu_mo 14 h3, fun hf => ac_mu_st (q := q) ?_ 14 h3 hq⟩
    · clear e1 e2 h3
      intro i hi hne
      dsimp only at hne ⊢
      by_cases e : i = q
      · subst e; rw [pk_us, pk_us]; exact ⟨ac_loA l1, ac_loO l2 hb⟩
      · rw [pk_un e, pk_un e]; exact hs i hi hne
    · dsimp only at hf
      show ac_m1 s q + 1 ≤ ac_m1 (s.1, upd s.2.1 q (s.2.1 q &&& a), upd s.2.2 q (s.2.2 q ||| b)) q
      have hf2 := of_decide_eq_true hf
      by_cases z : s.2.1 q &&& a = s.2.1 q
      · have z2 : ¬ s.2.2 q ||| b = s.2.2 q := fun y => hf2 ⟨z, y⟩
        obtain ⟨x, hx, hne⟩ := ac_bex (ac_loO l2 hb) l2 z2
        have := ac_cn_st (g := bt (s.2.2 q)) (h := bt (s.2.2 q ||| b)) 20 (by
          intro x _
          rw [b_or]; cases bt (s.2.2 q) x <;> simp) ⟨x, hx, by
            rw [b_or] at hne
            rw [b_or]
            revert hne
            cases bt (s.2.2 q) x <;> cases bt b x <;> simp⟩
        omega
      · obtain ⟨x, hx, hne⟩ := ac_bex (ac_loA l1) l1 z
        have := ac_cn_st (g := fun b => !bt (s.2.1 q) b) (h := fun b => !bt (s.2.1 q &&& a) b) 20 (by
          intro x _
          rw [b_and]; cases bt (s.2.1 q) x <;> simp) ⟨x, hx, by
            rw [b_and] at hne
            rw [b_and]
            revert hne
            cases bt (s.2.1 q) x <;> cases bt a x <;> simp⟩
        omega
theorem ac_arrNe {s : ac_T} {q : Nat} {a b : Int32} {p : Nat} (h : p ≠ q) : (ac_arr s q a b).1.1 p = s.1 p ∧ (ac_arr s q a b).1.2.1 p = s.2.1 p ∧ (ac_arr s q a b).1.2.2 p = s.2.2 p := by
  unfold ac_arr
  split
  · exact ⟨pk_un h, pk_un h, pk_un h⟩
  · exact ⟨rfl, pk_un h, pk_un h⟩
section
variable {op v0 v1 p0 p1 nu : Nat → Int32} {c : Nat}
theorem ac_afl (hv0 : ac_In 4 v0) (hv1 : ac_In 4 v1) (hp0 : ac_In 5 p0) (hp1 : ac_In 5 p1) {p : Nat} {x : Int32} (hx : ac_lo x) : ac_lo (ac_af op v0 v1 p0 p1 p x) :=
  ac_xal (ac_InN hp0 (by omega) p).1 (ac_InN hv0 (by omega) p).1 (ac_InN hp1 (by omega) p).1 (ac_InN hv1 (by omega) p).1 hx
theorem ac_tgt {x : Int32} (hc : c ≤ 14) (h0 : ¬ x < 0) (h1 : ¬ nI c ≤ x) : x.toNatClampNeg < c ∧ x = nI x.toNatClampNeg := by
  obtain ⟨j, hj, rfl⟩ := nI_of h0
  rw [nI_leI (by omega) hj] at h1
  rw [nI_clamp hj]
  exact ⟨by omega, rfl⟩
theorem ac_goOk (hv0 : ac_In 4 v0) (hv1 : ac_In 4 v1) (hp0 : ac_In 5 p0) (hp1 : ac_In 5 p1) (hc : c ≤ 14) {s : ac_T} (hs : ac_Ok s) {p : Nat} (hp : p < c) (hR : s.1 p ≠ 0) : ac_Gr s (ac_go op v0 v1 p0 p1 nu c p s) := by
  have ha : ac_lo (ac_af op v0 v1 p0 p1 p (s.2.1 p)) := ac_afl hv0 hv1 hp0 hp1 (hs p (by omega) hR).1
  have hb : ac_lo (ac_af op v0 v1 p0 p1 p (s.2.2 p)) := ac_afl hv0 hv1 hp0 hp1 (hs p (by omega) hR).2
  have h1 : ac_Gr s (ac_g1 op v0 v1 p0 p1 c p s) := by
    unfold ac_g1
    by_cases h : op p ≠ 6 ∧ op p ≠ 7 ∧ p + 1 < c
    · rw [if_pos h]; exact ac_arrOk hs (by omega) ha hb
    · rw [if_neg h]; exact ⟨hs, Nat.le_refl _, fun z => nomatch z⟩
  have h2 : ac_Gr (ac_g1 op v0 v1 p0 p1 c p s).1 (ac_g2 op nu c p (ac_af op v0 v1 p0 p1 p (s.2.1 p)) (ac_af op v0 v1 p0 p1 p (s.2.2 p)) (ac_g1 op v0 v1 p0 p1 c p s).1) := by
    unfold ac_g2
    by_cases h : (op p = 5 ∨ op p = 6) ∧ ¬ nu p < 0 ∧ ¬ nI c ≤ nu p
    · rw [if_pos h]
      have := ac_tgt hc h.2.1 h.2.2
      exact ac_arrOk h1.1 (by omega) ha hb
    · rw [if_neg h]; exact ⟨h1.1, Nat.le_refl _, fun z => nomatch z⟩
  unfold ac_go
  refine ⟨h2.1, Nat.le_trans h1.2.1 h2.2.1, ?_⟩
  dsimp only
  intro hf
  rw [Bool.or_eq_true] at hf
  rcases hf with hf | hf
  · have := h1.2.2 hf; have := h2.2.1; omega
  · have := h2.2.2 hf; have := h1.2.1; omega
theorem ac_psOk (hv0 : ac_In 4 v0) (hv1 : ac_In 4 v1) (hp0 : ac_In 5 p0) (hp1 : ac_In 5 p1) (hc : c ≤ 14) : ∀ (d p : Nat) (s : ac_T) (f : Bool), p + d = c → ac_Ok s →
    ac_Ok (ac_ps op v0 v1 p0 p1 nu c d p s f).1 ∧ ac_mu s 14 ≤ ac_mu (ac_ps op v0 v1 p0 p1 nu c d p s f).1 14 ∧ ((ac_ps op v0 v1 p0 p1 nu c d p s f).2 = true → f = true ∨ ac_mu s 14 + 1 ≤ ac_mu (ac_ps op v0 v1 p0 p1 nu c d p s f).1 14) := by
  intro d
  induction d with
  | zero => intro p s f _ hs; exact ⟨hs, Nat.le_refl _, fun z => Or.inl z⟩
  | succ d ih =>
    intro p s f hd hs
    unfold ac_ps
    by_cases h : s.1 p = 0
    · rw [if_pos h]; exact ih (p + 1) s f (by omega) hs
    · rw [if_neg h]
      have g := ac_goOk (op := op) (nu := nu) hv0 hv1 hp0 hp1 hc hs (p := p) (by omega) h
      obtain ⟨i1, i2, i3⟩ := ih (p + 1) (ac_go op v0 v1 p0 p1 nu c p s).1 (f || (ac_go op v0 v1 p0 p1 nu c p s).2) (by omega) g.1
      refine ⟨i1, Nat.le_trans g.2.1 i2, fun hf => ?_⟩
      rcases i3 hf with z | z
      · rw [Bool.or_eq_true] at z
        rcases z with z | z
        · exact Or.inl z
        · have := g.2.2 z; exact Or.inr (by omega)
      · have := g.2.1; exact Or.inr (by omega)
theorem ac_FOk (hv0 : ac_In 4 v0) (hv1 : ac_In 4 v1) (hp0 : ac_In 5 p0) (hp1 : ac_In 5 p1) (hc : c ≤ 14) {s : ac_T} (hs : ac_Ok s) : ac_Gr s (ac_F op v0 v1 p0 p1 nu c s) := by
  obtain ⟨h1, h2, h3⟩ := ac_psOk (op := op) (nu := nu) hv0 hv1 hp0 hp1 hc c 0 s false (by omega) hs
  refine ⟨h1, h2, fun hf => ?_⟩
  rcases h3 hf with z | z
  · exact nomatch z
  · exact z
theorem ac_itEq {F : ac_T → ac_T × Bool} (hF : ∀ s, ac_Ok s → ac_Gr s (F s)) (m : Nat) : ∀ (n : Nat) (s : ac_T), ac_Ok s → 575 ≤ n + ac_mu s 14 → ac_it F n s = ac_it F (n + m) s := by
  intro n
  induction n with
  | zero => intro s _ h; have := ac_mu_le s 14; omega
  | succ n ih =>
    intro s hs h
    rw [Nat.add_right_comm]
    unfold ac_it
    obtain ⟨g1, g2, g3⟩ := hF s hs
    by_cases z : (F s).2 = true
    · rw [if_pos z, if_pos z]
      have := g3 z
      exact ih _ g1 (by omega)
    · rw [if_neg z, if_neg z]
theorem ac_iniOk {s : ac_T} (h : ac_Ini c s) : ac_Ok s := by
  intro i hi hne
  by_cases e : i = 0 ∧ 0 < c
  · obtain ⟨rfl, e2⟩ := e
    rw [(h.2 e2).1, (h.2 e2).2]; exact ⟨ac_lo0, ac_lo0⟩
  · rw [h.1 i hi, if_neg e] at hne
    exact absurd rfl hne
theorem ac_iniMu (hc0 : 0 < c) {s : ac_T} (h : ac_Ini c s) : 1 ≤ ac_mu s 14 := by
  have e : s.1 0 = 1 := by rw [h.1 0 (by omega), if_pos ⟨rfl, hc0⟩]
  have e2 : 1 ≤ ac_m1 s 0 := by
    unfold ac_m1
    rw [e]
    unfold ac_m3
    rw [if_neg (by decide)]; omega
  have e3 : ac_mu s 1 ≤ ac_mu s 14 := by
    show ac_mu s 1 ≤ ac_mu s 1 + ac_m1 s 1 + ac_m1 s 2 + ac_m1 s 3 + ac_m1 s 4 + ac_m1 s 5 + ac_m1 s 6 + ac_m1 s 7 + ac_m1 s 8 + ac_m1 s 9 + ac_m1 s 10 + ac_m1 s 11 + ac_m1 s 12 + ac_m1 s 13
    omega
  have e4 : ac_mu s 1 = ac_m1 s 0 := Nat.zero_add _
  omega
theorem ac_itF0 (n : Nat) (s : ac_T) : ac_it (ac_F op v0 v1 p0 p1 nu 0) n s = s := by
  cases n with
  | zero => rfl
  | succ n => rfl
theorem ac_it600 (hv0 : ac_In 4 v0) (hv1 : ac_In 4 v1) (hp0 : ac_In 5 p0) (hp1 : ac_In 5 p1) (hc : c ≤ 14) {s : ac_T} (h : ac_Ini c s) :
    ac_it (ac_F op v0 v1 p0 p1 nu c) 600 s = ac_it (ac_F op v0 v1 p0 p1 nu c) 575 s := by
  rcases Nat.eq_zero_or_pos c with z | z
  · subst z; rw [ac_itF0, ac_itF0]
  · exact (ac_itEq (fun s hs => ac_FOk hv0 hv1 hp0 hp1 hc hs) 25 575 s (ac_iniOk h) (by omega)).symm
end
end
section
theorem ac_nar1 : vp_nar .boolean 1 = 1 := by show (1 &&& 1 : Int32) = 1; decide
theorem ac_nar0 : vp_nar .boolean 0 = 0 := by show (0 &&& 1 : Int32) = 0; decide
theorem ac_narB (f : Bool) : narrow .boolean (.int (ac_bI f)) = .int (ac_bI f) := by cases f <;> exact congrArg Value.int (by decide)
section
variable {c : Nat} {st po ch fk od : Int32} {op v0 v1 v2 p0 p1 p2 nu sv ro : Nat → Int32}
theorem ac_wArr {post : Int32 → SX → Prop} {R A S : Nat → Int32} {q : Nat} (hq : q < 14) (a b : Int32)
    (h : post (ac_bI (ac_arr (R, A, S) q a b).2) (nI c, st, po, ch, fk, od, op, v0, v1, v2, p0, p1, p2, nu, (ac_arr (R, A, S) q a b).1.1, (ac_arr (R, A, S) q a b).1.2.1, (ac_arr (R, A, S) q a b).1.2.2, sv, ro)) : wpX_arrive post (nI c, st, po, ch, fk, od, op, v0, v1, v2, p0, p1, p2, nu, R, A, S, sv, ro) (nI q) a b := by
  have hi : vp_in (nI q) 14 := vp_in_nI hq (by omega)
  have hn : (nI q).toNatClampNeg = q := nI_clamp (by omega)
  unfold wpX_arrive
  dsimp only
  rw [hn]
  by_cases h0 : R q = 0
  · have e : ac_arr (R, A, S) q a b = ((upd R q 1, upd A q a, upd S q b), true) := if_pos h0
    rw [e] at h
    exact ⟨hi, br_t h0 ⟨hi, nm_r (e' := upd R q 1) (by rw [ac_nar1]) ⟨hi, nm_e ⟨hi, nm_e h⟩⟩⟩⟩
  · have e : ac_arr (R, A, S) q a b = ((R, upd A q (A q &&& a), upd S q (S q ||| b)), decide (¬ (A q &&& a = A q ∧ S q ||| b = S q))) := if_neg h0
    rw [e] at h
    refine ⟨hi, br_f h0 ⟨hi, nm_e ⟨hi, nm_e ⟨hi, ?_⟩⟩⟩⟩
    by_cases h1 : A q &&& a = A q
    · refine br_t h1 ⟨hi, ?_⟩
      by_cases h2 : S q ||| b = S q
      · rw [decide_eq_false (fun z => z ⟨h1, h2⟩)] at h
        refine br_t h2 ?_
        unfold wX_arrive_79
        rw [hn]
        exact ⟨hi, nm_e ⟨hi, nm_e ⟨ac_narB false, h⟩⟩⟩
      · rw [decide_eq_true (show ¬ (A q &&& a = A q ∧ S q ||| b = S q) from fun z => h2 z.2)] at h
        refine br_f h2 ?_
        unfold wX_arrive_74 wX_arrive_79
        rw [hn]
        exact ⟨hi, nm_e ⟨hi, nm_e ⟨ac_narB true, h⟩⟩⟩
    · rw [decide_eq_true (show ¬ (A q &&& a = A q ∧ S q ||| b = S q) from fun z => h1 z.1)] at h
      refine br_f h1 ?_
      unfold wX_arrive_74 wX_arrive_79
      rw [hn]
      exact ⟨hi, nm_e ⟨hi, nm_e ⟨ac_narB true, h⟩⟩⟩
theorem ac_wAft {post : Int32 → Prop} {R A S : Nat → Int32} (hop : ac_In 8 op) (hv0 : ac_In 4 v0) (hv1 : ac_In 4 v1) (hp0 : ac_In 5 p0) (hp1 : ac_In 5 p1) {p : Nat} (hp : p < 14) (x : Int32)
    (h : post (ac_af op v0 v1 p0 p1 p x)) : wpX_carriedAfter post (nI c, st, po, ch, fk, od, op, v0, v1, v2, p0, p1, p2, nu, R, A, S, sv, ro) (nI p) x := by
  have hi : vp_in (nI p) 14 := vp_in_nI hp (by omega)
  have hn : (nI p).toNatClampNeg = p := nI_clamp (by omega)
  have ev := (ac_InN hv0 (by omega) p).2
  have ea := (ac_InN hv1 (by omega) p).2
  have ew : 4 * p0 p = nI (4 * ac_n p0 p) := by
    rw [← pk_mul, ← (ac_InN hp0 (by omega) p).2]; rfl
  have eq : 4 * p1 p = nI (4 * ac_n p1 p) := by
    rw [← pk_mul, ← (ac_InN hp1 (by omega) p).2]; rfl
  unfold wpX_carriedAfter
  dsimp only
  rw [hn]
  unfold ac_af ac_xa at h
  obtain ⟨o, ho, eo⟩ := hop p
  rw [eo] at h
  refine ⟨hi, nm_r ev ⟨hi, nm_r ew (nm_e (nm_e ⟨hi, nm_r eo ?_⟩))⟩⟩
  have ho2 : o = 0 ∨ o = 1 ∨ o = 2 ∨ o = 3 ∨ o = 4 ∨ o = 5 ∨ o = 6 ∨ o = 7 := by omega
  rcases ho2 with rfl | rfl | rfl | rfl | rfl | rfl | rfl | rfl
  · rw [if_pos (by decide)] at h
    refine br_f (by decide) (br_f (by decide) (br_t (by decide) ?_))
    unfold wX_carriedAfter_72
    rw [nI_add]; exact h
  · rw [if_pos (by decide)] at h
    refine br_f (by decide) (br_f (by decide) (br_f (by decide) (br_t (by decide) ?_)))
    unfold wX_carriedAfter_72
    rw [nI_add]; exact h
  · rw [if_neg (by decide), if_pos (by decide)] at h
    refine br_f (by decide) (br_f (by decide) (br_f (by decide) (br_f (by decide) (br_t (by decide) ⟨hi, nm_e ?_⟩))))
    rw [eq]; exact h
  · rw [if_neg (by decide), if_neg (by decide), if_neg (by decide)] at h
    exact br_f (by decide) (br_f (by decide) (br_f (by decide) (br_f (by decide) (br_f (by decide) (br_t (by decide) h)))))
  · rw [if_neg (by decide), if_neg (by decide), if_pos (by decide)] at h
    refine br_f (by decide) (br_f (by decide) (br_f (by decide) (br_f (by decide) (br_f (by decide) (br_f (by decide) (br_t (by decide) ⟨hi, nm_e ?_⟩))))))
    rw [ea]; exact h
  · rw [if_neg (by decide), if_neg (by decide), if_neg (by decide)] at h
    exact br_f (by decide) (br_t (by decide) h)
  · rw [if_neg (by decide), if_neg (by decide), if_neg (by decide)] at h
    exact br_f (by decide) (br_t (by decide) h)
  · rw [if_neg (by decide), if_neg (by decide), if_neg (by decide)] at h
    exact br_f (by decide) (br_t (by decide) h)
theorem ac_wPos {post : Int32 → Prop} {R A S : Nat → Int32} (x : Int32) (h0 : ¬ x < 0 ∧ ¬ nI c ≤ x → post 1) (h1 : ¬ (¬ x < 0 ∧ ¬ nI c ≤ x) → post 0) : wpX_isPosition post (nI c, st, po, ch, fk, od, op, v0, v1, v2, p0, p1, p2, nu, R, A, S, sv, ro) x := by
  unfold wpX_isPosition
  exact br_c (fun z => h1 (fun y => y.1 z)) (fun z => br_c (fun z2 => h1 (fun y => y.2 z2)) (fun z2 => h0 ⟨z, z2⟩))
theorem ac_wNxt {post : Int32 → Prop} {R A S : Nat → Int32} {p : Nat} (hp : p < 14) (h0 : op p ≠ 6 ∧ op p ≠ 7 → post 1) (h1 : ¬ (op p ≠ 6 ∧ op p ≠ 7) → post 0) : wpX_canGoToNext post (nI c, st, po, ch, fk, od, op, v0, v1, v2, p0, p1, p2, nu, R, A, S, sv, ro) (nI p) := by
  have hi : vp_in (nI p) 14 := vp_in_nI hp (by omega)
  unfold wpX_canGoToNext
  dsimp only
  rw [nI_clamp (by omega : p < 2 ^ 31)]
  exact ⟨hi, br_c (fun z => h1 (fun y => y.1 z)) (fun z => ⟨hi, br_c (fun z2 => h1 (fun y => y.2 z2)) (fun z2 => h0 ⟨z, z2⟩)⟩)⟩
theorem ac_wTgt {post : Int32 → Prop} {R A S : Nat → Int32} {p : Nat} (hp : p < 14) (h0 : op p = 5 ∨ op p = 6 → post 1) (h1 : ¬ (op p = 5 ∨ op p = 6) → post 0) : wpX_canGoToTarget post (nI c, st, po, ch, fk, od, op, v0, v1, v2, p0, p1, p2, nu, R, A, S, sv, ro) (nI p) := by
  have hi : vp_in (nI p) 14 := vp_in_nI hp (by omega)
  unfold wpX_canGoToTarget
  dsimp only
  rw [nI_clamp (by omega : p < 2 ^ 31)]
  exact ⟨hi, br_c (fun z => h0 (Or.inl z)) (fun z => ⟨hi, br_c (fun z2 => h0 (Or.inr z2)) (fun z2 => h1 (fun y => y.elim z z2))⟩)⟩
theorem ac_1ne : ¬ (1 : Int32) = 0 := by decide
theorem ac_wG2 {post : Int32 → SX → Prop} {R A S : Nat → Int32} {p : Nat} (hp : p < 14) (hc : c ≤ 14) (a b : Int32) (f : Bool)
    (h : post (ac_bI (f || (ac_g2 op nu c p a b (R, A, S)).2)) (nI c, st, po, ch, fk, od, op, v0, v1, v2, p0, p1, p2, nu, (ac_g2 op nu c p a b (R, A, S)).1.1, (ac_g2 op nu c p a b (R, A, S)).1.2.1, (ac_g2 op nu c p a b (R, A, S)).1.2.2, sv, ro)) : wX_goOnFrom_56 post (nI p) a b (ac_bI f) (nI c) st po ch fk od op v0 v1 v2 p0 p1 p2 nu R A S sv ro := by
  have hi : vp_in (nI p) 14 := vp_in_nI hp (by omega)
  unfold wX_goOnFrom_56
  rw [nI_clamp (by omega : p < 2 ^ 31)]
  unfold ac_g2 at h
  by_cases h5 : op p = 5 ∨ op p = 6
  · refine ac_wTgt hp (fun _ => br_f ac_1ne ⟨hi, ?_⟩) (fun z => absurd h5 z)
    refine ac_wPos _ (fun y => br_f ac_1ne ⟨hi, ?_⟩) (fun y => br_t rfl ⟨ac_narB f, ?_⟩)
    · rw [if_pos ⟨h5, y⟩] at h
      obtain ⟨t1, t2⟩ := ac_tgt hc y.1 y.2
      rw [t2]
      rw [t2] at h
      rw [nI_clamp (by omega)] at h
      refine ac_wArr (by omega) a b ?_
      dsimp only
      cases e : (ac_arr (R, A, S) (nu p).toNatClampNeg a b).2
      · rw [e, Bool.or_false] at h
        exact br_t rfl ⟨ac_narB f, h⟩
      · rw [e, Bool.or_true] at h
        exact br_f ac_1ne h
    · rw [if_neg (fun z => y z.2)] at h
      dsimp only at h
      rw [Bool.or_false] at h
      exact h
  · refine ac_wTgt hp (fun z => absurd z h5) (fun _ => br_t rfl ⟨ac_narB f, ?_⟩)
    rw [if_neg (fun z => h5 z.1)] at h
    dsimp only at h
    rw [Bool.or_false] at h
    exact h
theorem ac_p1 {p : Nat} (hp : p < 14) (hc : c ≤ 14) : (¬ nI (p + 1) < 0 ∧ ¬ nI c ≤ nI (p + 1)) ↔ p + 1 < c := by
  rw [nI_leI (by omega) (by omega)]
  constructor
  · intro z; omega
  · intro z; exact ⟨nI_pos (by omega), by omega⟩
theorem ac_wGo {post : Int32 → SX → Prop} {R A S : Nat → Int32} (hop : ac_In 8 op) (hv0 : ac_In 4 v0) (hv1 : ac_In 4 v1) (hp0 : ac_In 5 p0) (hp1 : ac_In 5 p1) {p : Nat} (hp : p < 14) (hc : c ≤ 14)
    (h : post (ac_bI (ac_go op v0 v1 p0 p1 nu c p (R, A, S)).2) (nI c, st, po, ch, fk, od, op, v0, v1, v2, p0, p1, p2, nu, (ac_go op v0 v1 p0 p1 nu c p (R, A, S)).1.1, (ac_go op v0 v1 p0 p1 nu c p (R, A, S)).1.2.1, (ac_go op v0 v1 p0 p1 nu c p (R, A, S)).1.2.2, sv, ro)) : wpX_goOnFrom post (nI c, st, po, ch, fk, od, op, v0, v1, v2, p0, p1, p2, nu, R, A, S, sv, ro) (nI p) := by
  have hi : vp_in (nI p) 14 := vp_in_nI hp (by omega)
  unfold wpX_goOnFrom
  dsimp only
  rw [nI_clamp (by omega : p < 2 ^ 31), nI_1 p]
  unfold ac_go at h
  refine ⟨hi, ac_wAft hop hv0 hv1 hp0 hp1 hp _ ⟨hi, ac_wAft hop hv0 hv1 hp0 hp1 hp _ ?_⟩⟩
  unfold ac_g1 at h
  refine ac_wNxt hp (fun h6 => br_f ac_1ne ?_) (fun h6 => br_t rfl ?_)
  · refine ac_wPos _ (fun y => br_f ac_1ne ?_) (fun y => br_t rfl ?_)
    · have e : op p ≠ 6 ∧ op p ≠ 7 ∧ p + 1 < c := ⟨h6.1, h6.2, (ac_p1 hp hc).mp y⟩
      rw [if_pos e] at h
      refine ac_wArr (by omega) _ _ ?_
      exact ac_wG2 hp hc _ _ _ h
    · have e : ¬ (op p ≠ 6 ∧ op p ≠ 7 ∧ p + 1 < c) := fun z => y ((ac_p1 hp hc).mpr z.2.2)
      rw [if_neg e] at h
      exact ac_wG2 hp hc _ _ false h
  · have e : ¬ (op p ≠ 6 ∧ op p ≠ 7 ∧ p + 1 < c) := fun z => h6 ⟨z.1, z.2.1⟩
    rw [if_neg e] at h
    exact ac_wG2 hp hc _ _ false h
theorem ac_wPs {post : SX → Prop} {J41 : Int32 → Int32 → Int32 → Int32 → Int32 → Int32 → Int32 → Int32 → (Nat → Int32) → (Nat → Int32) → (Nat → Int32) → (Nat → Int32) → (Nat → Int32) → (Nat → Int32) → (Nat → Int32) → (Nat → Int32) → (Nat → Int32) → (Nat → Int32) → (Nat → Int32) → (Nat → Int32) → (Nat → Int32) → Prop} {x2 : Int32}
    (hop : ac_In 8 op) (hv0 : ac_In 4 v0) (hv1 : ac_In 4 v1) (hp0 : ac_In 5 p0) (hp1 : ac_In 5 p1) (hc : c ≤ 14) :
    ∀ (d p : Nat) (R A S : Nat → Int32) (f : Bool) (n : Nat), p + d = c → d < n → J41 (ac_bI (ac_ps op v0 v1 p0 p1 nu c d p (R, A, S) f).2) (x2 + 1) (nI c) st po ch fk od op v0 v1 v2 p0 p1 p2 nu ((ac_ps op v0 v1 p0 p1 nu c d p (R, A, S) f).1.1) ((ac_ps op v0 v1 p0 p1 nu c d p (R, A, S) f).1.2.1) ((ac_ps op v0 v1 p0 p1 nu c d p (R, A, S) f).1.2.2) sv ro →
      wX_followAllWalks_56 post J41 x2 n (ac_bI f) (nI p) (nI c) st po ch fk od op v0 v1 v2 p0 p1 p2 nu R A S sv ro := by
  intro d
  induction d with
  | zero =>
    intro p R A S f n hd hn h
    cases n with
    | zero => omega
    | succ n =>
      have e : nI c ≤ nI p := nI_le (by omega) (by omega)
      exact br_t e (nm_e h)
  | succ d ih =>
    intro p R A S f n hd hn h
    cases n with
    | zero => omega
    | succ n =>
      have e : ¬ nI c ≤ nI p := nI_ge (by omega) (by omega)
      have hi : vp_in (nI p) 14 := vp_in_nI (by omega) (by omega)
      have hcl : (nI p).toNatClampNeg = p := nI_clamp (by omega)
      unfold ac_ps at h
      refine br_f e ⟨hi, ?_⟩
      by_cases h0 : R p = 0
      · rw [if_pos h0] at h
        exact br_t (by rw [hcl]; exact h0) (nm_r (nI_1 p) (ih (p + 1) R A S f n (by omega) (by omega) h))
      · rw [if_neg h0] at h
        refine br_f (by rw [hcl]; exact h0) (ac_wGo hop hv0 hv1 hp0 hp1 (by omega) hc ?_)
        dsimp only
        cases e2 : (ac_go op v0 v1 p0 p1 nu c p (R, A, S)).2
        · rw [e2, Bool.or_false] at h
          exact br_t rfl (nm_r (nI_1 p) (ih (p + 1) _ _ _ f n (by omega) (by omega) h))
        · rw [e2, Bool.or_true] at h
          exact br_f ac_1ne (nm_r (nI_1 p) (ih (p + 1) _ _ _ true n (by omega) (by omega) h))
theorem ac_wIt {post : SX → Prop} (hop : ac_In 8 op) (hv0 : ac_In 4 v0) (hv1 : ac_In 4 v1) (hp0 : ac_In 5 p0) (hp1 : ac_In 5 p1) (hc : c ≤ 14) :
    ∀ (m k n : Nat) (R A S : Nat → Int32) (f : Bool), m + k = 575 → m < n → post (nI c, st, po, ch, fk, od, op, v0, v1, v2, p0, p1, p2, nu, (if f = true then ac_it (ac_F op v0 v1 p0 p1 nu c) m (R, A, S) else (R, A, S)).1, (if f = true then ac_it (ac_F op v0 v1 p0 p1 nu c) m (R, A, S) else (R, A, S)).2.1, (if f = true then ac_it (ac_F op v0 v1 p0 p1 nu c) m (R, A, S) else (R, A, S)).2.2, sv, ro) →
      wX_followAllWalks_41 post n (ac_bI f) (nI k) (nI c) st po ch fk od op v0 v1 v2 p0 p1 p2 nu R A S sv ro := by
  intro m
  induction m with
  | zero =>
    intro k n R A S f hm hn h
    cases n with
    | zero => omega
    | succ n =>
      cases f with
      | false => exact br_t rfl h
      | true =>
        have e : (575 : Int32) ≤ nI k := nI_le (a := 575) (by omega) (by omega)
        exact br_f ac_1ne (br_t e h)
  | succ m ih =>
    intro k n R A S f hm hn h
    cases n with
    | zero => omega
    | succ n =>
      cases f with
      | false => exact br_t rfl h
      | true =>
        have e : ¬ (575 : Int32) ≤ nI k := nI_ge (b := 575) (by omega) (by omega)
        refine br_f ac_1ne (br_f e ⟨c + 1, ac_wPs hop hv0 hv1 hp0 hp1 hc c 0 R A S false (c + 1) (by omega) (by omega) ?_⟩)
        rw [nI_1 k]
        refine ih (k + 1) n _ _ _ _ (by omega) (by omega) ?_
        rw [if_pos rfl] at h
        unfold ac_it at h
        exact h
theorem ac_wRs {A S : Nat → Int32} : ∀ (d x : Nat) (R : Nat → Int32), x + d = 14 → (∀ i, i < x → R i = 0) →
    ∃ R' : Nat → Int32, (∀ i, i < 14 → R' i = 0) ∧ ∀ (post : SX → Prop) (n : Nat), wX_followAllWalks_2 post (nI c) st po ch fk od (n + 1) (nI 14) op v0 v1 v2 p0 p1 p2 nu R' A S sv ro → wX_followAllWalks_2 post (nI c) st po ch fk od (n + 1 + d) (nI x) op v0 v1 v2 p0 p1 p2 nu R A S sv ro := by
  intro d
  induction d with
  | zero =>
    intro x R hd hR
    have e : x = 14 := by omega
    subst e
    exact ⟨R, hR, fun post n h => h⟩
  | succ d ih =>
    intro x R hd hR
    obtain ⟨R', h1, h2⟩ := ih (x + 1) (upd R x 0) (by omega) (by
      intro i hi
      by_cases e : i = x
      · rw [e, pk_us]
      · rw [pk_un e]; exact hR i (by omega))
    refine ⟨R', h1, fun post n h => ?_⟩
    have e : ¬ (14 : Int32) ≤ nI x := nI_ge (b := 14) (by omega) (by omega)
    have hcl : (nI x).toNatClampNeg = x := nI_clamp (by omega)
    exact br_f e ⟨vp_in_nI (by omega) (by omega), nm_r (e' := upd R x 0) (by rw [hcl, ac_nar0]) (nm_r (nI_1 x) (h2 post n h))⟩
theorem ac_wFo {R A S : Nat → Int32} (hop : ac_In 8 op) (hv0 : ac_In 4 v0) (hv1 : ac_In 4 v1) (hp0 : ac_In 5 p0) (hp1 : ac_In 5 p1) (hc : c ≤ 14) :
    ∃ s0 : ac_T, ac_Ini c s0 ∧ ∀ post : SX → Prop, post (nI c, st, po, ch, fk, od, op, v0, v1, v2, p0, p1, p2, nu, (ac_it (ac_F op v0 v1 p0 p1 nu c) 575 s0).1, (ac_it (ac_F op v0 v1 p0 p1 nu c) 575 s0).2.1, (ac_it (ac_F op v0 v1 p0 p1 nu c) 575 s0).2.2, sv, ro) → wpX_followAllWalks post (nI c, st, po, ch, fk, od, op, v0, v1, v2, p0, p1, p2, nu, R, A, S, sv, ro) := by
  obtain ⟨R', h1, h2⟩ := ac_wRs (c := c) (st := st) (po := po) (ch := ch) (fk := fk) (od := od) (op := op) (v0 := v0) (v1 := v1) (v2 := v2) (p0 := p0) (p1 := p1) (p2 := p2) (nu := nu) (sv := sv) (ro := ro) (A := A) (S := S) 14 0 R (by omega) (by intro i hi; omega)
  have e14 : (14 : Int32) ≤ nI 14 := by decide
  rcases Nat.eq_zero_or_pos c with z | z
  · subst z
    refine ⟨(R', A, S), ⟨fun i hi => by rw [if_neg (by omega)]; exact h1 i hi, fun z => absurd z (by omega)⟩, fun post h => ?_⟩
    rw [ac_itF0] at h
    exact ⟨_, h2 post 0 (br_t e14 (br_t rfl h))⟩
  · refine ⟨(upd R' 0 1, upd A 0 0, upd S 0 0), ⟨fun i hi => ?_, fun _ => ⟨pk_us (f := A) (k := 0) (x := 0), pk_us (f := S) (k := 0) (x := 0)⟩⟩, fun post h => ?_⟩
    · by_cases e : i = 0
      · rw [if_pos ⟨e, z⟩, e]; exact pk_us (f := R') (k := 0) (x := 1)
      · rw [if_neg (fun y => e y.1)]
        show upd R' 0 1 i = 0
        rw [pk_un e]; exact h1 i hi
    · refine ⟨_, h2 post 0 (br_t e14 (br_f (nI_ne0 z (by omega)) ?_))⟩
      refine ac_wArr (q := 0) (by omega) 0 0 ?_
      have e : ac_arr (R', A, S) 0 0 0 = ((upd R' 0 1, upd A 0 0, upd S 0 0), true) := if_pos (h1 0 (by omega))
      rw [e]
      exact ⟨576, ac_wIt hop hv0 hv1 hp0 hp1 hc 575 0 576 _ _ _ true (by omega) (by omega) h⟩
end
end
section
/-- the reference's collected sets against the picture, at every position of the program -/
def ac_Sim (c : Nat) (s : ac_T) (C W O : Nat → Int32) : Prop := ∀ i, i < c → (s.1 i = 0 ∧ C i = 0 ∧ W i = 0 ∧ O i = 0) ∨ (s.1 i = 1 ∧ C i = 1 ∧ W i = s.2.2 i ∧ O i = s.2.1 i ^^^ 1048575 ∧ ac_lo (s.2.1 i) ∧ ac_lo (s.2.2 i))
theorem ac_yst {r z : Int32} {i : Nat} {g : Nat → Bool} (hi : i < 20) (hr : ∀ b, b < 32 → bt r b = (decide (b < i) && g b)) (hz : ∀ j, j < 32 → bt z j = (decide (j = 0) && g i)) :
    ∀ b, b < 32 → bt (r ||| (z <<< (nI i &&& 31))) b = (decide (b < i + 1) && g b) := by
  intro b hb
  rw [b_or, hr b hb, b_shl i (by omega) _ hb, hz (b - i) (by omega)]
  by_cases h1 : b < i
  · have h2 : b < i + 1 := by omega
    have h3 : ¬ i ≤ b := by omega
    simp [h1, h2, h3]
  · by_cases h2 : b = i
    · subst h2; simp
    · have h3 : ¬ b < i + 1 := by omega
      have h4 : ¬ b - i = 0 := by omega
      simp [h1, h3, h4]
section
variable {c : Nat} {dg ay fo bi sd : Int32} {op v0 v1 v2 p0 p1 p2 nv va la : Nat → Int32}
theorem ac_yAl {post : Int32 → Prop} {C W O : Nat → Int32} (hv0 : ac_In 4 v0) (hv1 : ac_In 4 v1) (hp0 : ac_In 5 p0) (hp1 : ac_In 5 p1) {p : Nat} (hp : p < 14) (x f3 : Int32) (fr : Bool) (hf1 : bt f3 1 = fr) (hf0 : bt f3 0 = !fr)
    (h : ∀ r, (∀ b, b < 32 → bt r b = (decide (b < 20) && ac_nb (op p) (ac_n p0 p) (ac_n v0 p) (ac_n p1 p) (ac_n v1 p) fr (bt x) b)) → post r) :
    ∀ (d i n : Nat) (r : Int32), i + d = 20 → d < n → (∀ b, b < 32 → bt r b = (decide (b < i) && ac_nb (op p) (ac_n p0 p) (ac_n v0 p) (ac_n p1 p) (ac_n v1 p) fr (bt x) b)) →
      wY_after_14 post (nI p) x f3 (op p) (nI c) dg ay fo bi sd op v0 v1 v2 p0 p1 p2 nv C W O va la n r (nI i) := by
  have hi14 : vp_in (nI p) 14 := vp_in_nI hp (by omega)
  have hn : (nI p).toNatClampNeg = p := nI_clamp (by omega)
  obtain ⟨lw, ew⟩ := ac_InN hp0 (by omega) p
  obtain ⟨lv, ev⟩ := ac_InN hv0 (by omega) p
  obtain ⟨lq, eq⟩ := ac_InN hp1 (by omega) p
  obtain ⟨la1, ea⟩ := ac_InN hv1 (by omega) p
  intro d
  induction d with
  | zero =>
    intro i n r hd hn1 hr
    cases n with
    | zero => omega
    | succ n =>
      have e : i = 20 := by omega
      subst e
      exact br_t (by decide) (h r hr)
  | succ d ih =>
    intro i n r hd hn1 hr
    cases n with
    | zero => omega
    | succ n =>
      have e20 : ¬ (20 : Int32) ≤ nI i := nI_ge (b := 20) (by omega) (by omega)
      have K : ∀ z, (∀ j, j < 32 → bt z j = (decide (j = 0) && ac_nb (op p) (ac_n p0 p) (ac_n v0 p) (ac_n p1 p) (ac_n v1 p) fr (bt x) i)) →
          wY_after_196 post (wY_after_14 post (nI p) x f3 (op p) (nI c) dg ay fo bi sd op v0 v1 v2 p0 p1 p2 nv C W O va la n) (nI p) x f3 (op p) r (nI i) z (nI c) dg ay fo bi sd op v0 v1 v2 p0 p1 p2 nv C W O va la := by
        intro z hz
        exact nm_e (nm_r (nI_1 i) (ih (i + 1) n _ (by omega) (by omega) (ac_yst (by omega) hr hz)))
      have cw : nI (i / 4) = p0 p ↔ i / 4 = ac_n p0 p := by
        rw [ew, nI_eq (by omega) (by omega)]
      have cv : nI (i % 4) = v0 p ↔ i % 4 = ac_n v0 p := by
        rw [ev, nI_eq (by omega) (by omega)]
      have n4 : ¬ (4 : Int32) = 0 := by decide
      refine br_f e20 ⟨n4, nm_r (e' := nI (i / 4)) (pk_div (d := 4) (by omega) (by omega) (by omega)) ⟨n4, nm_r (e' := nI (i % 4)) (pk_rem (d := 4) (by omega) (by omega) (by omega)) (nm_e ?_)⟩⟩
      have K52 : op p = 0 ∨ op p = 1 → wY_after_52 post (wY_after_14 post (nI p) x f3 (op p) (nI c) dg ay fo bi sd op v0 v1 v2 p0 p1 p2 nv C W O va la n) (nI p) x f3 (op p) r (nI i) (nI (i / 4)) (nI (i % 4)) ((x >>> (nI i &&& 31)) &&& 1) (nI c) dg ay fo bi sd op v0 v1 v2 p0 p1 p2 nv C W O va la := by
        intro h01
        unfold wY_after_52 wY_after_74 wY_after_101 wY_after_102 wY_after_110
        rw [hn]
        unfold ac_nb at K
        by_cases e1 : i / 4 = ac_n p0 p
        · by_cases e2 : i % 4 = ac_n v0 p
          · refine ⟨hi14, br_t (cw.mpr e1) ⟨hi14, br_t (cw.mpr e1) ⟨hi14, br_t (cv.mpr e2) (K _ (fun j hj => ?_))⟩⟩⟩
            rw [if_pos h01, if_pos (Or.inl e1), if_pos ⟨e1, e2⟩, ← hf1]
            exact ac_one f3 (k := 1) (by omega) hj
          · refine ⟨hi14, br_t (cw.mpr e1) ⟨hi14, br_t (cw.mpr e1) ⟨hi14, br_f (fun z => e2 (cv.mp z)) (K _ (fun j hj => ?_))⟩⟩⟩
            rw [if_pos h01, if_pos (Or.inl e1), if_neg (fun z => e2 z.2), ← hf0]
            exact ac_one f3 (k := 0) (by omega) hj
        · by_cases e2 : i % 4 = ac_n v0 p
          · refine ⟨hi14, br_f (fun z => e1 (cw.mp z)) ⟨hi14, br_t (cv.mpr e2) ⟨hi14, br_f (fun z => e1 (cw.mp z)) (K _ (fun j hj => ?_))⟩⟩⟩
            rw [if_pos h01, if_pos (Or.inr e2), if_neg (fun z => e1 z.1), ← hf0]
            exact ac_one f3 (k := 0) (by omega) hj
          · refine ⟨hi14, br_f (fun z => e1 (cw.mp z)) ⟨hi14, br_f (fun z => e2 (cv.mp z)) (K _ (fun j hj => ?_))⟩⟩
            rw [if_pos h01, if_neg (fun z => z.elim e1 e2)]
            exact ac_one x (k := i) (by omega) hj
      refine br_c (fun z => K52 (Or.inl z)) (fun z0 => br_c (fun z => K52 (Or.inr z)) (fun z1 => ?_))
      have h01 : ¬ (op p = 0 ∨ op p = 1) := fun z => z.elim z0 z1
      unfold ac_nb at K
      refine br_c (fun z2 => ?_) (fun z2 => br_c (fun z4 => ?_) (fun z4 => ?_))
      · unfold wY_after_152
        rw [hn]
        by_cases e1 : i / 4 = ac_n p0 p
        · refine ⟨hi14, br_t (cw.mpr e1) ⟨hi14, K _ (fun j hj => ?_)⟩⟩
          rw [if_neg h01, if_pos z2, if_pos e1]
          have e5 : 4 * p1 p + nI (i % 4) = nI (4 * ac_n p1 p + i % 4) := by
            rw [← nI_add, ← pk_mul, ← eq]; rfl
          rw [e5]
          exact ac_one x (by omega) hj
        · refine ⟨hi14, br_f (fun z => e1 (cw.mp z)) (K _ (fun j hj => ?_))⟩
          rw [if_neg h01, if_pos z2, if_neg e1]
          exact ac_one x (k := i) (by omega) hj
      · unfold wY_after_194
        rw [hn]
        by_cases e2 : i % 4 = ac_n v0 p
        · refine ⟨hi14, br_t (cv.mpr e2) ⟨hi14, K _ (fun j hj => ?_)⟩⟩
          rw [if_neg h01, if_neg z2, if_pos z4, if_pos e2]
          have e5 : 4 * nI (i / 4) + v1 p = nI (4 * (i / 4) + ac_n v1 p) := by
            rw [← nI_add, ← pk_mul, ← ea]; rfl
          rw [e5]
          exact ac_one x (by omega) hj
        · refine ⟨hi14, br_f (fun z => e2 (cv.mp z)) (K _ (fun j hj => ?_))⟩
          rw [if_neg h01, if_neg z2, if_pos z4, if_neg e2]
          exact ac_one x (k := i) (by omega) hj
      · refine K _ (fun j hj => ?_)
        rw [if_neg h01, if_neg z2, if_neg z4]
        exact ac_one x (k := i) (by omega) hj
theorem ac_yA2 {post : Int32 → Prop} {C W O : Nat → Int32} (hv0 : ac_In 4 v0) (hv1 : ac_In 4 v1) (hp0 : ac_In 5 p0) (hp1 : ac_In 5 p1) {p : Nat} (hp : p < 14) {x : Int32} (hx : ac_lo x)
    (h : post (ac_af op v0 v1 p0 p1 p x)) : wpY_after post (nI c, dg, ay, fo, bi, sd, op, v0, v1, v2, p0, p1, p2, nv, C, W, O, va, la) (nI p) x 2 := by
  have hi14 : vp_in (nI p) 14 := vp_in_nI hp (by omega)
  have hn : (nI p).toNatClampNeg = p := nI_clamp (by omega)
  unfold wpY_after
  dsimp only
  rw [hn]
  refine ⟨hi14, nm_e ⟨21, ac_yAl hv0 hv1 hp0 hp1 hp x 2 true (by decide) (by decide) (fun r hr => ?_) 20 0 21 0 (by omega) (by omega) (fun b hb => ?_)⟩⟩
  · have e : r = ac_af op v0 v1 p0 p1 p x := by
      apply b_ext
      intro b hb
      unfold ac_af
      rw [hr b hb, ac_xab (ac_InN hp0 (by omega) p).1 (ac_InN hv0 (by omega) p).1 (ac_InN hp1 (by omega) p).1 (ac_InN hv1 (by omega) p).1 hx hb]
    rw [e]; exact h
  · rw [b_0]; simp
theorem ac_yA1 {post : Int32 → Prop} {C W O : Nat → Int32} (hv0 : ac_In 4 v0) (hv1 : ac_In 4 v1) (hp0 : ac_In 5 p0) (hp1 : ac_In 5 p1) {p : Nat} (hp : p < 14) {x : Int32} (hx : ac_lo x)
    (h : post (ac_af op v0 v1 p0 p1 p x ^^^ 1048575)) : wpY_after post (nI c, dg, ay, fo, bi, sd, op, v0, v1, v2, p0, p1, p2, nv, C, W, O, va, la) (nI p) (x ^^^ 1048575) 1 := by
  have hi14 : vp_in (nI p) 14 := vp_in_nI hp (by omega)
  have hn : (nI p).toNatClampNeg = p := nI_clamp (by omega)
  unfold wpY_after
  dsimp only
  rw [hn]
  refine ⟨hi14, nm_e ⟨21, ac_yAl hv0 hv1 hp0 hp1 hp _ 1 false (by decide) (by decide) (fun r hr => ?_) 20 0 21 0 (by omega) (by omega) (fun b hb => ?_)⟩⟩
  · have e : r = ac_af op v0 v1 p0 p1 p x ^^^ 1048575 := by
      apply b_ext
      intro b hb
      rw [hr b hb]
      rcases Nat.lt_or_ge b 20 with h2 | h2
      · rw [ac_xm _ h2, decide_eq_true h2, Bool.true_and]
        unfold ac_af
        rw [ac_xab (ac_InN hp0 (by omega) p).1 (ac_InN hv0 (by omega) p).1 (ac_InN hp1 (by omega) p).1 (ac_InN hv1 (by omega) p).1 hx hb, decide_eq_true h2, Bool.true_and]
        exact ac_nbn (ac_InN hp1 (by omega) p).1 (ac_InN hv1 (by omega) p).1 (fun i hi => ac_xm x hi) h2
      · rw [ac_xm2 _ h2, ac_afl hv0 hv1 hp0 hp1 hx b h2, decide_eq_false (by omega)]; rfl
    rw [e]; exact h
  · rw [b_0]; simp
theorem ac_SimU {s : ac_T} {C W O : Nat → Int32} (hS : ac_Sim c s C W O) {q : Nat} {a b w o : Int32} (hw : (s.1 q = 0 ∧ w = b ∧ o = a ^^^ 1048575 ∧ ac_lo a ∧ ac_lo b) ∨ (s.1 q = 1 ∧ w = s.2.2 q ||| b ∧ o = (s.2.1 q &&& a) ^^^ 1048575 ∧ ac_lo (s.2.1 q &&& a) ∧ ac_lo (s.2.2 q ||| b))) :
    ac_Sim c (ac_arr s q a b).1 (upd C q 1) (upd W q w) (upd O q o) := by
  intro i hi
  by_cases e : i = q
  · subst e
    right
    rw [pk_us, pk_us, pk_us]
    unfold ac_arr
    rcases hw with ⟨h0, h1, h2, h3, h4⟩ | ⟨h0, h1, h2, h3, h4⟩
    · rw [if_pos h0]
      dsimp only
      rw [pk_us, pk_us, pk_us]; exact ⟨rfl, rfl, h1, h2, h3, h4⟩
    · rw [if_neg (by rw [h0]; decide)]
      dsimp only
      rw [pk_us, pk_us]; exact ⟨h0, rfl, h1, h2, h3, h4⟩
  · obtain ⟨e1, e2, e3⟩ := ac_arrNe (s := s) (a := a) (b := b) e
    rw [pk_un e, pk_un e, pk_un e, e1, e2, e3]; exact hS i hi
theorem ac_y90 {post : Int32 → SY → Prop} {C W O : Nat → Int32} {q : Nat} (hq : q < 14) (w o : Int32) (f : Bool) (h : post (ac_bI f) (nI c, dg, ay, fo, bi, sd, op, v0, v1, v2, p0, p1, p2, nv, upd C q 1, upd W q w, upd O q o, va, la)) : wY_carry_90 post (nI q) w o (ac_bI f) (nI c) dg ay fo bi sd op v0 v1 v2 p0 p1 p2 nv C W O va la := by
  have hi : vp_in (nI q) 14 := vp_in_nI hq (by omega)
  unfold wY_carry_90
  rw [nI_clamp (by omega : q < 2 ^ 31)]
  exact ⟨hi, nm_r (e' := upd C q 1) (by rw [ac_nar1]) ⟨hi, nm_e ⟨hi, nm_e ⟨ac_narB f, h⟩⟩⟩⟩
theorem ac_yCar {post : Int32 → SY → Prop} {C W O : Nat → Int32} {s : ac_T} (hS : ac_Sim c s C W O) (hv0 : ac_In 4 v0) (hv1 : ac_In 4 v1) (hp0 : ac_In 5 p0) (hp1 : ac_In 5 p1) (hc : c ≤ 14) {p : Nat} (hp : p < c) (hR : s.1 p ≠ 0) {q : Nat} (hq : q < c)
    (h : ∀ C' W' O', ac_Sim c (ac_arr s q (ac_af op v0 v1 p0 p1 p (s.2.1 p)) (ac_af op v0 v1 p0 p1 p (s.2.2 p))).1 C' W' O' → post (ac_bI (ac_arr s q (ac_af op v0 v1 p0 p1 p (s.2.1 p)) (ac_af op v0 v1 p0 p1 p (s.2.2 p))).2) (nI c, dg, ay, fo, bi, sd, op, v0, v1, v2, p0, p1, p2, nv, C', W', O', va, la)) :
    wpY_carry post (nI c, dg, ay, fo, bi, sd, op, v0, v1, v2, p0, p1, p2, nv, C, W, O, va, la) (nI p) (nI q) := by
  have hip : vp_in (nI p) 14 := vp_in_nI (by omega) (by omega)
  have hiq : vp_in (nI q) 14 := vp_in_nI (by omega) (by omega)
  have hlt : nI q < nI c := nI_lt hq (by omega)
  unfold wpY_carry
  dsimp only
  rw [nI_clamp (by omega : p < 2 ^ 31), nI_clamp (by omega : q < 2 ^ 31)]
  rcases hS p hp with z | ⟨_, _, eW, eO, lA, lS⟩
  · exact absurd z.1 hR
  refine br_f (nI_pos (by omega)) (br_t hlt ⟨hiq, hip, ?_⟩)
  rw [eW, eO]
  refine ac_yA2 hv0 hv1 hp0 hp1 (by omega) lS (nm_e ⟨hiq, hip, ac_yA1 hv0 hv1 hp0 hp1 (by omega) lA (nm_e ⟨hiq, ?_⟩)⟩)
  have la := ac_afl (op := op) hv0 hv1 hp0 hp1 (p := p) lA
  have lb := ac_afl (op := op) hv0 hv1 hp0 hp1 (p := p) lS
  revert h la lb
  generalize ac_af op v0 v1 p0 p1 p (s.2.1 p) = a
  generalize ac_af op v0 v1 p0 p1 p (s.2.2 p) = b
  intro h la lb
  rcases hS q hq with ⟨r0, c0, w0, o0⟩ | ⟨r1, c1, w1, o1, lA2, lS2⟩
  · refine br_t c0 ?_
    rw [w0, o0, ac_0or, ac_0or]
    unfold wY_carry_85
    refine ac_y90 (by omega) _ _ true ?_
    have := h _ _ _ (ac_SimU hS (q := q) (a := a) (b := b) (Or.inl ⟨r0, rfl, rfl, la, lb⟩))
    have e : (ac_arr s q a b).2 = true := by unfold ac_arr; rw [if_pos r0]
    rw [e] at this
    exact this
  · have hH := h _ _ _ (ac_SimU hS (q := q) (a := a) (b := b) (Or.inr ⟨r1, rfl, rfl, ac_loA lA2, ac_loO lS2 lb⟩))
    have e : (ac_arr s q a b).2 = decide (¬ (s.2.1 q &&& a = s.2.1 q ∧ s.2.2 q ||| b = s.2.2 q)) := by unfold ac_arr; rw [if_neg (by rw [r1]; decide)]
    rw [e] at hH
    refine br_f (by rw [c1]; decide) ⟨hiq, ?_⟩
    rw [w1, o1, ac_dm lA2 la]
    unfold wY_carry_85
    by_cases h2 : s.2.2 q ||| b = s.2.2 q
    · refine br_t h2 ⟨hiq, ?_⟩
      by_cases h1 : s.2.1 q &&& a = s.2.1 q
      · rw [decide_eq_false (fun z => z ⟨h1, h2⟩)] at hH
        exact br_t (by rw [h1]) (ac_y90 (by omega) _ _ false hH)
      · rw [decide_eq_true (show ¬ (s.2.1 q &&& a = s.2.1 q ∧ s.2.2 q ||| b = s.2.2 q) from fun z => h1 z.1)] at hH
        exact br_f (fun z => h1 (ac_xmi z)) (ac_y90 (by omega) _ _ true hH)
    · rw [decide_eq_true (show ¬ (s.2.1 q &&& a = s.2.1 q ∧ s.2.2 q ||| b = s.2.2 q) from fun z => h2 z.2)] at hH
      exact br_f h2 (ac_y90 (by omega) _ _ true hH)
theorem ac_yCarN {post : Int32 → SY → Prop} {C W O : Nat → Int32} {p : Int32} {x : Int32} (hx : ¬ (¬ x < 0 ∧ ¬ nI c ≤ x)) (h : post 0 (nI c, dg, ay, fo, bi, sd, op, v0, v1, v2, p0, p1, p2, nv, C, W, O, va, la)) : wpY_carry post (nI c, dg, ay, fo, bi, sd, op, v0, v1, v2, p0, p1, p2, nv, C, W, O, va, la) p x := by
  unfold wpY_carry
  exact br_c (fun _ => h) (fun z => br_f (fun z2 => hx ⟨z, Int32.not_le.mpr z2⟩) h)
end
end
section
section
variable {c : Nat} {dg ay fo bi sd : Int32} {op v0 v1 v2 p0 p1 p2 nu nv va la : Nat → Int32}
variable {post : SY → Prop} {J63 J78 : Int32 → Int32 → Int32 → Int32 → Int32 → Int32 → Int32 → Int32 → (Nat → Int32) → (Nat → Int32) → (Nat → Int32) → (Nat → Int32) → (Nat → Int32) → (Nat → Int32) → (Nat → Int32) → (Nat → Int32) → (Nat → Int32) → (Nat → Int32) → (Nat → Int32) → (Nat → Int32) → (Nat → Int32) → Prop} {x2 : Int32}
theorem ac_y175 {C W O : Nat → Int32} {p : Nat} (f f1 f2 : Bool) (h : J78 (ac_bI (f || (f1 || f2))) (nI (p + 1)) (nI c) dg ay fo bi sd op v0 v1 v2 p0 p1 p2 nv C W O va la) : wY_collect_175 post J63 J78 (ac_bI f) x2 (nI p) (ac_bI f1) (ac_bI f2) (nI c) dg ay fo bi sd op v0 v1 v2 p0 p1 p2 nv C W O va la := by
  unfold wY_collect_175
  rw [nI_1 p]
  cases f with
  | true => exact br_f ac_1ne (nm_e h)
  | false =>
    cases f1 with
    | true => exact br_t rfl (br_f ac_1ne (nm_e h))
    | false =>
      cases f2 with
      | true => exact br_t rfl (br_t rfl (br_f ac_1ne (nm_e h)))
      | false => exact br_t rfl (br_t rfl (br_t rfl (nm_e h)))
theorem ac_yG2 {C W O : Nat → Int32} {s : ac_T} (hnv : ∀ i, op i ≠ 7 → nv i = nu i) (hS : ac_Sim c s C W O) (hv0 : ac_In 4 v0) (hv1 : ac_In 4 v1) (hp0 : ac_In 5 p0) (hp1 : ac_In 5 p1) (hc : c ≤ 14) {p : Nat} (hp : p < c) (hR : s.1 p ≠ 0) {a b : Int32} (ha : ac_af op v0 v1 p0 p1 p (s.2.1 p) = a) (hb : ac_af op v0 v1 p0 p1 p (s.2.2 p) = b) (f f1 : Bool)
    (h : ∀ C' W' O', ac_Sim c (ac_g2 op nu c p a b s).1 C' W' O' → J78 (ac_bI (f || (f1 || (ac_g2 op nu c p a b s).2))) (nI (p + 1)) (nI c) dg ay fo bi sd op v0 v1 v2 p0 p1 p2 nv C' W' O' va la) :
    wY_collect_133 post J63 J78 (ac_bI f) x2 (nI p) (ac_bI f1) (nI c) dg ay fo bi sd op v0 v1 v2 p0 p1 p2 nv C W O va la := by
  have hi : vp_in (nI p) 14 := vp_in_nI (by omega) (by omega)
  have key : op p = 5 ∨ op p = 6 → wY_collect_156 post J63 J78 (ac_bI f) x2 (nI p) (ac_bI f1) (nI c) dg ay fo bi sd op v0 v1 v2 p0 p1 p2 nv C W O va la := by
    intro h5
    unfold wY_collect_156 wY_collect_174
    rw [nI_clamp (by omega : p < 2 ^ 31)]
    have en : nv p = nu p := hnv p (by rcases h5 with y | y <;> rw [y] <;> decide)
    rw [en]
    refine ⟨hi, ?_⟩
    unfold ac_g2 at h
    by_cases y : ¬ nu p < 0 ∧ ¬ nI c ≤ nu p
    · rw [if_pos ⟨h5, y⟩] at h
      obtain ⟨t1, t2⟩ := ac_tgt hc y.1 y.2
      rw [t2]
      refine ac_yCar hS hv0 hv1 hp0 hp1 hc hp hR t1 ?_
      intro C' W' O' hS'
      rw [ha, hb] at hS' ⊢
      have := h C' W' O' hS'
      dsimp only
      cases e : (ac_arr s (nu p).toNatClampNeg a b).2
      · rw [e] at this
        exact br_t rfl (ac_y175 f f1 false this)
      · rw [e] at this
        exact br_f ac_1ne (ac_y175 f f1 true this)
    · rw [if_neg (fun z => y z.2)] at h
      refine ac_yCarN y ?_
      exact br_t rfl (ac_y175 f f1 false (h C W O hS))
  unfold wY_collect_133
  rw [nI_clamp (by omega : p < 2 ^ 31)]
  refine ⟨hi, br_c (fun z => key (Or.inl z)) (fun z => ⟨hi, br_c (fun z2 => key (Or.inr z2)) (fun z2 => ?_)⟩)⟩
  unfold ac_g2 at h
  rw [if_neg (fun y => y.1.elim z z2)] at h
  unfold wY_collect_174
  exact ac_y175 f f1 false (h C W O hS)
theorem ac_SimR {C W O : Nat → Int32} {s : ac_T} (hS : ac_Sim c s C W O) {p : Nat} (hp : p < c) : C p = 0 ↔ s.1 p = 0 := by
  rcases hS p hp with z | z
  · exact ⟨fun _ => z.1, fun _ => z.2.1⟩
  · rw [z.1, z.2.1]
theorem ac_yPs (hnv : ∀ i, op i ≠ 7 → nv i = nu i) (hv0 : ac_In 4 v0) (hv1 : ac_In 4 v1) (hp0 : ac_In 5 p0) (hp1 : ac_In 5 p1) (hc : c ≤ 14) :
    ∀ (d p : Nat) (s : ac_T) (C W O : Nat → Int32) (f : Bool) (n : Nat), p + d = c → d < n → ac_Sim c s C W O →
      (∀ C' W' O', ac_Sim c (ac_ps op v0 v1 p0 p1 nu c d p s f).1 C' W' O' → J63 (ac_bI (ac_ps op v0 v1 p0 p1 nu c d p s f).2) (x2 + 1) (nI c) dg ay fo bi sd op v0 v1 v2 p0 p1 p2 nv C' W' O' va la) →
      wY_collect_78 post J63 x2 n (ac_bI f) (nI p) (nI c) dg ay fo bi sd op v0 v1 v2 p0 p1 p2 nv C W O va la := by
  intro d
  induction d with
  | zero =>
    intro p s C W O f n hd hn hS h
    cases n with
    | zero => omega
    | succ n =>
      have e : nI c ≤ nI p := nI_le (by omega) (by omega)
      exact br_t e (nm_e (h C W O hS))
  | succ d ih =>
    intro p s C W O f n hd hn hS h
    cases n with
    | zero => omega
    | succ n =>
      have e : ¬ nI c ≤ nI p := nI_ge (by omega) (by omega)
      have hi : vp_in (nI p) 14 := vp_in_nI (by omega) (by omega)
      have hcl : (nI p).toNatClampNeg = p := nI_clamp (by omega)
      unfold ac_ps at h
      refine br_f e ⟨hi, ?_⟩
      by_cases h0 : s.1 p = 0
      · rw [if_pos h0] at h
        exact br_t (by rw [hcl]; exact (ac_SimR hS (by omega)).mpr h0) (nm_r (nI_1 p) (ih (p + 1) s C W O f n (by omega) (by omega) hS h))
      · rw [if_neg h0] at h
        refine br_f (by rw [hcl]; exact fun z => h0 ((ac_SimR hS (by omega)).mp z)) ⟨hi, ?_⟩
        rw [hcl, nI_1 p]
        have J : ∀ C' W' O', ac_Sim c (ac_go op v0 v1 p0 p1 nu c p s).1 C' W' O' → wY_collect_78 post J63 x2 n (ac_bI (f || (ac_go op v0 v1 p0 p1 nu c p s).2)) (nI (p + 1)) (nI c) dg ay fo bi sd op v0 v1 v2 p0 p1 p2 nv C' W' O' va la :=
          fun C' W' O' hS' => ih (p + 1) _ C' W' O' _ n (by omega) (by omega) hS' h
        unfold ac_go at J
        have key : ∀ (s1 : ac_T) (C1 W1 O1 : Nat → Int32) (f1 : Bool), ac_Sim c s1 C1 W1 O1 → ac_g1 op v0 v1 p0 p1 c p s = (s1, f1) → s1.1 p = s.1 p → s1.2.1 p = s.2.1 p → s1.2.2 p = s.2.2 p →
            wY_collect_133 post J63 (wY_collect_78 post J63 x2 n) (ac_bI f) x2 (nI p) (ac_bI f1) (nI c) dg ay fo bi sd op v0 v1 v2 p0 p1 p2 nv C1 W1 O1 va la := by
          intro s1 C1 W1 O1 f1 hS1 e1 q1 q2 q3
          rw [e1] at J
          exact ac_yG2 hnv hS1 hv0 hv1 hp0 hp1 hc (by omega) (by rw [q1]; exact h0) (by rw [q2]) (by rw [q3]) f f1 J
        have k0 : ¬ (op p ≠ 6 ∧ op p ≠ 7 ∧ p + 1 < c) → wY_collect_132 post J63 (wY_collect_78 post J63 x2 n) (ac_bI f) x2 (nI p) (nI c) dg ay fo bi sd op v0 v1 v2 p0 p1 p2 nv C W O va la := by
          intro z
          exact key s C W O false hS (if_neg z) rfl rfl rfl
        refine br_c (fun z => k0 (fun y => y.1 z)) (fun z6 => ⟨hi, br_c (fun z => k0 (fun y => y.2.1 z)) (fun z7 => ?_)⟩)
        by_cases hq : p + 1 < c
        · refine ac_yCar hS hv0 hv1 hp0 hp1 hc (by omega) h0 hq ?_
          intro C1 W1 O1 hS1
          have e1 : ac_g1 op v0 v1 p0 p1 c p s = ac_arr s (p + 1) (ac_af op v0 v1 p0 p1 p (s.2.1 p)) (ac_af op v0 v1 p0 p1 p (s.2.2 p)) := if_pos ⟨z6, z7, hq⟩
          obtain ⟨q1, q2, q3⟩ := ac_arrNe (s := s) (q := p + 1) (a := ac_af op v0 v1 p0 p1 p (s.2.1 p)) (b := ac_af op v0 v1 p0 p1 p (s.2.2 p)) (p := p) (by omega)
          dsimp only
          cases e2 : (ac_arr s (p + 1) (ac_af op v0 v1 p0 p1 p (s.2.1 p)) (ac_af op v0 v1 p0 p1 p (s.2.2 p))).2
          · exact br_t rfl (key _ C1 W1 O1 false hS1 (by rw [e1, ← e2]) q1 q2 q3)
          · exact br_f ac_1ne (key _ C1 W1 O1 true hS1 (by rw [e1, ← e2]) q1 q2 q3)
        · refine ac_yCarN ?_ ?_
          · rw [ac_p1 (by omega) hc]; exact hq
          · exact br_t rfl (k0 (fun y => hq y.2.2))
end
section
variable {c : Nat} {dg ay fo bi sd : Int32} {op v0 v1 v2 p0 p1 p2 nu nv va la : Nat → Int32} {post : SY → Prop}
theorem ac_yIt (hnv : ∀ i, op i ≠ 7 → nv i = nu i) (hv0 : ac_In 4 v0) (hv1 : ac_In 4 v1) (hp0 : ac_In 5 p0) (hp1 : ac_In 5 p1) (hc : c ≤ 14) :
    ∀ (m k n : Nat) (s : ac_T) (C W O : Nat → Int32) (f : Bool), m + k = 600 → m < n → ac_Sim c s C W O →
      (∀ C' W' O', ac_Sim c (if f = true then ac_it (ac_F op v0 v1 p0 p1 nu c) m s else s) C' W' O' → post (nI c, dg, ay, fo, bi, sd, op, v0, v1, v2, p0, p1, p2, nv, C', W', O', va, la)) →
      wY_collect_63 post n (ac_bI f) (nI k) (nI c) dg ay fo bi sd op v0 v1 v2 p0 p1 p2 nv C W O va la := by
  intro m
  induction m with
  | zero =>
    intro k n s C W O f hm hn hS h
    cases n with
    | zero => omega
    | succ n =>
      have e : (600 : Int32) ≤ nI k := nI_le (a := 600) (by omega) (by omega)
      refine br_t e (h C W O ?_)
      cases f <;> exact hS
  | succ m ih =>
    intro k n s C W O f hm hn hS h
    cases n with
    | zero => omega
    | succ n =>
      have e : ¬ (600 : Int32) ≤ nI k := nI_ge (b := 600) (by omega) (by omega)
      cases f with
      | false => exact br_f e (br_t rfl (h C W O hS))
      | true =>
        refine br_f e (br_f ac_1ne ⟨c + 1, ac_yPs hnv hv0 hv1 hp0 hp1 hc c 0 s C W O false (c + 1) (by omega) (by omega) hS ?_⟩)
        intro C' W' O' hS'
        rw [nI_1 k]
        refine ih (k + 1) n _ C' W' O' _ (by omega) (by omega) hS' ?_
        rw [if_pos rfl] at h
        unfold ac_it at h
        exact h
theorem ac_yRs (hc : c ≤ 14) : ∀ (d x : Nat) (C W O : Nat → Int32), x + d = 14 → (∀ i, i < x → C i = (if i = 0 ∧ 0 < c then 1 else 0) ∧ W i = 0 ∧ O i = if i = 0 then 1048575 else 0) →
    (∀ C' W' O' : Nat → Int32, (∀ i, i < 14 → C' i = (if i = 0 ∧ 0 < c then 1 else 0) ∧ W' i = 0 ∧ O' i = if i = 0 then 1048575 else 0) → ∃ n63 : Nat, wY_collect_63 post n63 1 0 (nI c) dg ay fo bi sd op v0 v1 v2 p0 p1 p2 nv C' W' O' va la) →
    wY_collect_2 post (nI c) dg ay fo bi sd (d + 1) (nI x) op v0 v1 v2 p0 p1 p2 nv C W O va la := by
  intro d
  induction d with
  | zero =>
    intro x C W O hd hI h
    have e : x = 14 := by omega
    subst e
    exact br_t (by decide) (h C W O hI)
  | succ d ih =>
    intro x C W O hd hI h
    have e : ¬ (14 : Int32) ≤ nI x := nI_ge (b := 14) (by omega) (by omega)
    have hi : vp_in (nI x) 14 := vp_in_nI (by omega) (by omega)
    have hcl : (nI x).toNatClampNeg = x := nI_clamp (by omega)
    have key : ∀ z0 : Int32, vp_nar .boolean z0 = (if x = 0 ∧ 0 < c then 1 else 0) → wY_collect_29 post (wY_collect_2 post (nI c) dg ay fo bi sd (d + 1)) (nI x) z0 (nI x) (nI c) dg ay fo bi sd op v0 v1 v2 p0 p1 p2 nv C W O va la := by
      intro z0 hz
      unfold wY_collect_29
      rw [hcl, hz, nI_1 x]
      have g : ∀ o : Int32, (o = if x = 0 then 1048575 else 0) → wY_collect_2 post (nI c) dg ay fo bi sd (d + 1) (nI (x + 1)) op v0 v1 v2 p0 p1 p2 nv (upd C x (if x = 0 ∧ 0 < c then 1 else 0)) (upd W x 0) (upd O x o) va la := by
        intro o ho
        refine ih (x + 1) _ _ _ (by omega) ?_ h
        intro i hi2
        by_cases e2 : i = x
        · subst e2
          rw [pk_us, pk_us, pk_us]; exact ⟨rfl, rfl, ho⟩
        · rw [pk_un e2, pk_un e2, pk_un e2]; exact hI i (by omega)
      refine ⟨hi, nm_e ⟨hi, nm_e ?_⟩⟩
      rcases Nat.eq_zero_or_pos x with z | z
      · have e0 : nI x = 0 := by rw [z]; rfl
        exact br_t e0 ⟨hi, nm_e (nm_e (g 1048575 (by rw [if_pos z])))⟩
      · exact br_f (nI_ne0 z (by omega)) ⟨hi, nm_e (nm_e (g 0 (by rw [if_neg (by omega)])))⟩
    refine br_f e ?_
    unfold wY_collect_28
    rcases Nat.eq_zero_or_pos x with z | z
    · have e0 : nI x = 0 := by rw [z]; rfl
      refine br_t e0 ?_
      rcases Nat.eq_zero_or_pos c with zc | zc
      · refine br_t (by rw [zc]; decide) (key 0 ?_)
        rw [if_neg (by omega), ac_nar0]
      · refine br_f (nI_nle zc (by omega)) (key 1 ?_)
        rw [if_pos ⟨z, zc⟩, ac_nar1]
    · refine br_f (nI_ne0 z (by omega)) (key 0 ?_)
      rw [if_neg (by omega), ac_nar0]
theorem ac_yCol {C W O : Nat → Int32} (hnv : ∀ i, op i ≠ 7 → nv i = nu i) (hv0 : ac_In 4 v0) (hv1 : ac_In 4 v1) (hp0 : ac_In 5 p0) (hp1 : ac_In 5 p1) (hc : c ≤ 14) {s0 : ac_T} (hI : ac_Ini c s0)
    (h : ∀ C' W' O', ac_Sim c (ac_it (ac_F op v0 v1 p0 p1 nu c) 575 s0) C' W' O' → post (nI c, dg, ay, fo, bi, sd, op, v0, v1, v2, p0, p1, p2, nv, C', W', O', va, la)) : wpY_collect post (nI c, dg, ay, fo, bi, sd, op, v0, v1, v2, p0, p1, p2, nv, C, W, O, va, la) := by
  refine ⟨15, ac_yRs hc 14 0 C W O (by omega) (fun i hi => absurd hi (by omega)) ?_⟩
  intro C' W' O' hJ
  refine ⟨601, ac_yIt hnv hv0 hv1 hp0 hp1 hc 600 0 601 s0 C' W' O' true (by omega) (by omega) ?_ ?_⟩
  · intro i hi
    obtain ⟨j1, j2, j3⟩ := hJ i (by omega)
    have i1 := hI.1 i (by omega)
    by_cases e : i = 0
    · have e2 : i = 0 ∧ 0 < c := ⟨e, by omega⟩
      rw [if_pos e2] at j1 i1
      rw [if_pos e] at j3
      obtain ⟨i2, i3⟩ := hI.2 e2.2
      right
      rw [e] at j1 j2 j3 i1 ⊢
      rw [i1, j1, j2, j3, i2, i3]
      exact ⟨rfl, rfl, rfl, by decide, ac_lo0, ac_lo0⟩
    · have e2 : ¬ (i = 0 ∧ 0 < c) := fun z => e z.1
      rw [if_neg e2] at j1 i1
      rw [if_neg e] at j3
      exact Or.inl ⟨i1, j1, j2, j3⟩
  · rw [if_pos rfl, ac_it600 hv0 hv1 hp0 hp1 hc hI]
    exact h
end
end
section
def ac_Run (B : Nat) (st po ch fk : Int32) (od : Nat) (ay fo bi sd : Int32) (ro la : Nat → Int32) : Prop :=
  (st = 0 → od = 0) ∧ (st ≠ 0 → sd = nI od ∧ od ≤ B ∧ ∀ j, j < 8 → j < od → ro ((od - 1 - j) % 8) = la j) ∧ (st = 1 → ay = po ∧ bi = ch ∧ fo = fk)
def ac_Prg (op v0 v1 v2 p0 p1 p2 : Nat → Int32) : Prop := ac_In 8 op ∧ ac_In 4 v0 ∧ ac_In 4 v1 ∧ ac_In 4 v2 ∧ ac_In 5 p0 ∧ ac_In 5 p1 ∧ ac_In 5 p2
def ac_Rel (B : Nat) (u : SX) (v : SY) : Prop := ∃ (c : Nat) (st po ch fk : Int32) (od : Nat) (op v0 v1 v2 p0 p1 p2 nu R A S sv ro : Nat → Int32) (ay fo bi sd : Int32) (nv C W O la : Nat → Int32) (s0 : ac_T),
  u = (nI c, st, po, ch, fk, nI od, op, v0, v1, v2, p0, p1, p2, nu, R, A, S, sv, ro) ∧ v = (nI c, st, ay, fo, bi, sd, op, v0, v1, v2, p0, p1, p2, nv, C, W, O, sv, la) ∧ c ≤ 14 ∧ (∀ i, op i ≠ 7 → nv i = nu i) ∧ ac_Prg op v0 v1 v2 p0 p1 p2 ∧ ac_Ini c s0 ∧ (R, A, S) = ac_it (ac_F op v0 v1 p0 p1 nu c) 575 s0 ∧ ac_Run B st po ch fk od ay fo bi sd ro la
theorem ac_up {B B' : Nat} {u : SX} {v : SY} (hB : B ≤ B') (h : ac_Rel B u v) : ac_Rel B' u v := by
  obtain ⟨c, st, po, ch, fk, od, op, v0, v1, v2, p0, p1, p2, nu, R, A, S, sv, ro, ay, fo, bi, sd, nv, C, W, O, la, s0, eu, ev, hc, hnv, hP, hI, hE, r1, r2, r3⟩ := h
  refine ⟨c, st, po, ch, fk, od, op, v0, v1, v2, p0, p1, p2, nu, R, A, S, sv, ro, ay, fo, bi, sd, nv, C, W, O, la, s0, eu, ev, hc, hnv, hP, hI, hE, r1, fun z => ?_, r3⟩
  obtain ⟨a1, a2, a3⟩ := r2 z
  exact ⟨a1, by omega, a3⟩
theorem ac_14lt {c : Nat} (hc : c < 14) : nI c < 14 := nI_lt (b := 14) hc (by omega)
theorem ac_app {B : Nat} {u : SX} {v : SY} (I : ac_Rel B u v) (o vs pl n n' : Int32) (hn' : o ≠ 7 → n' = n) (ho : ∃ j, j < 8 ∧ o = nI j) (h0 : ∃ j, j < 5 ∧ pl &&& 7 = nI j) (h1 : ∃ j, j < 5 ∧ (pl >>> ((3 : Int32) &&& 31)) &&& 7 = nI j) (h2 : ∃ j, j < 5 ∧ (pl >>> ((6 : Int32) &&& 31)) &&& 7 = nI j) :
    ∃ (r : Int32) (u' : SX) (v' : SY), ac_Rel B u' v' ∧ (∀ post : Int32 → SX → Prop, post r u' → wpX_append post u o vs pl n) ∧ (∀ post : Int32 → SY → Prop, post r v' → wpY_append post v o vs pl n') := by
  have I' := I
  obtain ⟨c, st, po, ch, fk, od, op, v0, v1, v2, p0, p1, p2, nu, R, A, S, sv, ro, ay, fo, bi, sd, nv, C, W, O, la, s0, rfl, rfl, hc, hnv, ⟨hop, hv0, hv1, hv2, hp0, hp1, hp2⟩, hI, hE, hR⟩ := I
  by_cases h14 : c < 14
  · obtain ⟨jo, lo, eo⟩ := ho
    obtain ⟨j0, l0, e0⟩ := h0
    obtain ⟨j1, l1, e1⟩ := h1
    obtain ⟨j2, l2, e2⟩ := h2
    obtain ⟨k0, m0, f0⟩ := pk_andE vs (m := 3) 2 (by decide)
    obtain ⟨k1, m1, f1⟩ := pk_andE (vs >>> ((2 : Int32) &&& 31)) (m := 3) 2 (by decide)
    obtain ⟨k2, m2, f2⟩ := pk_andE (vs >>> ((4 : Int32) &&& 31)) (m := 3) 2 (by decide)
    have go := ac_InU hop (k := c) lo eo
    have gv0 := ac_InU hv0 (k := c) m0 f0
    have gv1 := ac_InU hv1 (k := c) m1 f1
    have gv2 := ac_InU hv2 (k := c) m2 f2
    have gp0 := ac_InU hp0 (k := c) l0 e0
    have gp1 := ac_InU hp1 (k := c) l1 e1
    have gp2 := ac_InU hp2 (k := c) l2 e2
    have hcl : (nI c).toNatClampNeg = c := nI_clamp (by omega)
    have hi : vp_in (nI c) 14 := vp_in_nI h14 (by omega)
    have hnv' : ∀ i, upd op c o i ≠ 7 → upd nv c n' i = upd nu c n i := by
      intro i hi7
      by_cases e : i = c
      · subst e
        rw [pk_us] at hi7
        rw [pk_us, pk_us]; exact hn' hi7
      · rw [pk_un e] at hi7
        rw [pk_un e, pk_un e]; exact hnv i hi7
    obtain ⟨s1, hI1, H⟩ := ac_wFo (c := c + 1) (st := 0) (po := po) (ch := ch) (fk := fk) (od := 0) (v2 := upd v2 c ((vs >>> ((4 : Int32) &&& 31)) &&& 3)) (p2 := upd p2 c ((pl >>> ((6 : Int32) &&& 31)) &&& 7)) (nu := upd nu c n) (sv := sv) (ro := ro) (R := R) (A := A) (S := S) go gv0 gv1 gp0 gp1 (by omega)
    refine ⟨nI c, _, _, ⟨c + 1, 0, po, ch, fk, 0, _, _, _, upd v2 c ((vs >>> ((4 : Int32) &&& 31)) &&& 3), _, _, upd p2 c ((pl >>> ((6 : Int32) &&& 31)) &&& 7), upd nu c n, _, _, _, sv, ro, ay, fo, bi, sd, upd nv c n', C, W, O, la, s1, rfl, rfl, by omega, hnv', ⟨go, gv0, gv1, gv2, gp0, gp1, gp2⟩, hI1, rfl, fun _ => rfl, fun z => absurd rfl z, fun z => absurd z (by decide)⟩, ?_, ?_⟩
    · intro post h
      unfold wpX_append
      dsimp only
      rw [hcl]
      refine br_t (ac_14lt h14) ⟨hi, nm_e ⟨hi, nm_e ⟨hi, nm_e ⟨hi, nm_e ⟨hi, nm_e ⟨hi, nm_e ⟨hi, nm_e ⟨hi, nm_e (nm_r (nI_1 c) ?_)⟩⟩⟩⟩⟩⟩⟩⟩
      unfold wpX_endRun
      dsimp only
      exact H _ h
    · intro post h
      unfold wpY_append
      dsimp only
      rw [hcl]
      refine br_t (ac_14lt h14) ⟨hi, nm_e ⟨hi, nm_e ⟨hi, nm_e ⟨hi, nm_e ⟨hi, nm_e ⟨hi, nm_e ⟨hi, nm_e ⟨hi, nm_e (nm_r (nI_1 c) ?_)⟩⟩⟩⟩⟩⟩⟩⟩
      rw [nI_pred]
      exact h
  · have e : ¬ nI c < 14 := nI_nlt (b := 14) (by omega) (by omega)
    exact ⟨-2, _, _, I', fun post h => br_f e h, fun post h => br_f e h⟩
theorem ac_drp {B : Nat} {u : SX} {v : SY} (I : ac_Rel B u v) :
    ∃ (r : Int32) (u' : SX) (v' : SY), ac_Rel B u' v' ∧ (∀ post : Int32 → SX → Prop, post r u' → wpX_drop post u) ∧ (∀ post : Int32 → SY → Prop, post r v' → wpY_drop post v) := by
  have I' := I
  obtain ⟨c, st, po, ch, fk, od, op, v0, v1, v2, p0, p1, p2, nu, R, A, S, sv, ro, ay, fo, bi, sd, nv, C, W, O, la, s0, rfl, rfl, hc, hnv, ⟨hop, hv0, hv1, hv2, hp0, hp1, hp2⟩, hI, hE, hR⟩ := I
  cases c with
  | zero => exact ⟨-1, _, _, I', fun post h => br_t rfl h, fun post h => br_t rfl h⟩
  | succ c =>
    have e : ¬ nI (c + 1) = 0 := nI_ne0 (by omega) (by omega)
    obtain ⟨s1, hI1, H⟩ := ac_wFo (c := c) (st := 0) (po := po) (ch := ch) (fk := fk) (od := 0) (v2 := v2) (p2 := p2) (nu := nu) (sv := sv) (ro := ro) (R := R) (A := A) (S := S) hop hv0 hv1 hp0 hp1 (by omega)
    refine ⟨nI c, _, _, ⟨c, 0, po, ch, fk, 0, op, v0, v1, v2, p0, p1, p2, nu, _, _, _, sv, ro, ay, fo, bi, sd, nv, C, W, O, la, s1, rfl, rfl, by omega, hnv, ⟨hop, hv0, hv1, hv2, hp0, hp1, hp2⟩, hI1, rfl, fun _ => rfl, fun z => absurd rfl z, fun z => absurd z (by decide)⟩, ?_, ?_⟩
    · intro post h
      unfold wpX_drop
      dsimp only
      refine br_f e (nm_r (nI_pred c) ?_)
      unfold wpX_endRun
      dsimp only
      exact H _ h
    · intro post h
      exact br_f e (nm_r (nI_pred c) h)
/-! what the questions answer -/
section
variable {c : Nat} {st po ch fk od : Int32} {op v0 v1 v2 p0 p1 p2 nu sv ro R A S : Nat → Int32}
theorem ac_inC {j : Nat} (hj : j < c) (hc : c ≤ 14) : ¬ nI j < 0 ∧ ¬ nI c ≤ nI j := ⟨nI_pos (by omega), nI_ge hj (by omega)⟩
theorem ac_wReO {post : Int32 → Prop} {x : Int32} (hx : ¬ (¬ x < 0 ∧ ¬ nI c ≤ x)) (h : post 0) : wpX_reached post (nI c, st, po, ch, fk, od, op, v0, v1, v2, p0, p1, p2, nu, R, A, S, sv, ro) x := by
  unfold wpX_reached
  exact ac_wPos x (fun z => absurd z hx) (fun _ => br_t rfl h)
theorem ac_wRe0 {post : Int32 → Prop} {j : Nat} (hc : c ≤ 14) (hj : j < c) (hR : R j = 0) (h : post 0) : wpX_reached post (nI c, st, po, ch, fk, od, op, v0, v1, v2, p0, p1, p2, nu, R, A, S, sv, ro) (nI j) := by
  unfold wpX_reached
  dsimp only
  rw [nI_clamp (by omega : j < 2 ^ 31)]
  exact ac_wPos _ (fun _ => br_f ac_1ne ⟨vp_in_nI (by omega) (by omega), br_t hR h⟩) (fun z => absurd (ac_inC hj hc) z)
theorem ac_wRe1 {post : Int32 → Prop} {j : Nat} (hc : c ≤ 14) (hj : j < c) (hR : R j ≠ 0) (h : post 1) : wpX_reached post (nI c, st, po, ch, fk, od, op, v0, v1, v2, p0, p1, p2, nu, R, A, S, sv, ro) (nI j) := by
  unfold wpX_reached
  dsimp only
  rw [nI_clamp (by omega : j < 2 ^ 31)]
  exact ac_wPos _ (fun _ => br_f ac_1ne ⟨vp_in_nI (by omega) (by omega), br_f hR h⟩) (fun z => absurd (ac_inC hj hc) z)
end
abbrev ac_lv (op nu : Nat → Int32) (c p : Nat) : Prop := (op p ≠ 6 ∧ op p ≠ 7 ∧ ¬ p + 1 < c) ∨ ((op p = 5 ∨ op p = 6) ∧ ¬ (¬ nu p < 0 ∧ ¬ nI c ≤ nu p))
def ac_sum (f1 f2 f3 : Bool) : Int32 := ((if f1 = true then 1 else 0) + (if f2 = true then 2 else 0)) + (if f3 = true then 4 else 0)
def ac_d1 (op v1 p1 A : Nat → Int32) (p : Nat) : Bool := decide ((op p = 1 ∨ op p = 3) ∧ bt (A p) (4 * ac_n p1 p + ac_n v1 p) = false)
def ac_d2 (op v2 p2 A : Nat → Int32) (p : Nat) : Bool := decide (op p = 1 ∧ bt (A p) (4 * ac_n p2 p + ac_n v2 p) = false)
def ac_fv (op v1 v2 p1 p2 nu R A : Nat → Int32) (c p : Nat) : Int32 := if R p = 0 then 0 else ac_sum (ac_d1 op v1 p1 A p) (ac_d2 op v2 p2 A p) (decide (ac_lv op nu c p))
section
variable {c : Nat} {st po ch fk od : Int32} {op v0 v1 v2 p0 p1 p2 nu sv ro R A S : Nat → Int32}
theorem ac_wLv {post : Int32 → Prop} {p : Nat} (hc : c ≤ 14) (hp : p < c) (h : post (ac_bI (decide (ac_lv op nu c p)))) : wpX_canLeave post (nI c, st, po, ch, fk, od, op, v0, v1, v2, p0, p1, p2, nu, R, A, S, sv, ro) (nI p) := by
  have hi : vp_in (nI p) 14 := vp_in_nI (by omega) (by omega)
  unfold wpX_canLeave
  dsimp only
  rw [nI_1 p]
  have k : ¬ (op p ≠ 6 ∧ op p ≠ 7 ∧ ¬ p + 1 < c) → wX_canLeave_18 post (nI p) (nI c) st po ch fk od op v0 v1 v2 p0 p1 p2 nu R A S sv ro := by
    intro z
    unfold wX_canLeave_18
    rw [nI_clamp (by omega : p < 2 ^ 31)]
    refine ac_wTgt (by omega) (fun h5 => br_f ac_1ne ⟨hi, ac_wPos _ (fun y => br_f ac_1ne ?_) (fun y => br_t rfl ?_)⟩) (fun h5 => br_t rfl ?_)
    · rw [decide_eq_false (fun w => w.elim z (fun w2 => w2.2 y))] at h; exact h
    · rw [decide_eq_true (Or.inr ⟨h5, y⟩)] at h; exact h
    · rw [decide_eq_false (fun w => w.elim z (fun w2 => h5 w2.1))] at h; exact h
  refine ac_wNxt (by omega) (fun h6 => br_f ac_1ne (ac_wPos _ (fun y => br_f ac_1ne ?_) (fun y => br_t rfl ?_))) (fun h6 => br_t rfl ?_)
  · exact k (fun z => z.2.2 ((ac_p1 (by omega) hc).mp y))
  · rw [ac_p1 (by omega) hc] at y
    rw [decide_eq_true (Or.inl ⟨h6.1, h6.2, y⟩)] at h; exact h
  · exact k (fun z => h6 ⟨z.1, z.2.1⟩)
theorem ac_wAl {post : Int32 → Prop} {p : Nat} (hp : p < 14) {x y : Int32} {k : Nat} (hk : k < 32) (e : 4 * x + y = nI k) (h : post (ac_bI (bt (A p) k))) : wpX_alwaysCarries post (nI c, st, po, ch, fk, od, op, v0, v1, v2, p0, p1, p2, nu, R, A, S, sv, ro) (nI p) x y := by
  unfold wpX_alwaysCarries
  dsimp only
  rw [nI_clamp (by omega : p < 2 ^ 31), e]
  refine ⟨vp_in_nI hp (by omega), br_c (fun z => ?_) (fun z => ?_)⟩
  · rw [(ac_ub (A p) hk).mp z] at h; exact h
  · rw [Bool.eq_false_iff.mpr (fun w => z ((ac_ub (A p) hk).mpr w))] at h; exact h
theorem ac_4k {x y : Nat → Int32} (hx : ac_In 5 x) (hy : ac_In 4 y) (p : Nat) : 4 * ac_n x p + ac_n y p < 20 ∧ 4 * x p + y p = nI (4 * ac_n x p + ac_n y p) := by
  obtain ⟨l1, e1⟩ := ac_InN hx (by omega) p
  obtain ⟨l2, e2⟩ := ac_InN hy (by omega) p
  refine ⟨by omega, ?_⟩
  rw [← nI_add, ← pk_mul, ← e1, ← e2]; rfl
theorem ac_wF64 {post : Int32 → Prop} {p : Nat} (hp : p < 14) (hv2 : ac_In 4 v2) (hp2 : ac_In 5 p2) (z : Int32) (h : post (z + if ac_d2 op v2 p2 A p = true then 2 else 0)) : wX_faults_64 post (nI p) (op p) z (nI c) st po ch fk od op v0 v1 v2 p0 p1 p2 nu R A S sv ro := by
  have hi : vp_in (nI p) 14 := vp_in_nI hp (by omega)
  obtain ⟨l, e⟩ := ac_4k hp2 hv2 p
  unfold wX_faults_64
  rw [nI_clamp (by omega : p < 2 ^ 31)]
  unfold ac_d2 at h
  refine br_c (fun h1 => ⟨hi, hi, ac_wAl hp (by omega) e ?_⟩) (fun h1 => ?_)
  · cases b : bt (A p) (4 * ac_n p2 p + ac_n v2 p)
    · rw [decide_eq_true ⟨h1, b⟩, if_pos rfl] at h
      exact br_t rfl (nm_e h)
    · rw [decide_eq_false (fun w => by rw [b] at w; exact nomatch w.2), if_neg (fun w => nomatch w), Int32.add_zero] at h
      exact br_f ac_1ne h
  · rw [decide_eq_false (fun w => h1 w.1), if_neg (fun w => nomatch w), Int32.add_zero] at h
    exact h
theorem ac_wF30 {post : Int32 → Prop} {p : Nat} (hp : p < 14) (hv1 : ac_In 4 v1) (hp1 : ac_In 5 p1) (hv2 : ac_In 4 v2) (hp2 : ac_In 5 p2) (z : Int32) (h : post ((z + if ac_d1 op v1 p1 A p = true then 1 else 0) + if ac_d2 op v2 p2 A p = true then 2 else 0)) : wX_faults_30 post (nI p) (op p) z (nI c) st po ch fk od op v0 v1 v2 p0 p1 p2 nu R A S sv ro := by
  have hi : vp_in (nI p) 14 := vp_in_nI hp (by omega)
  obtain ⟨l, e⟩ := ac_4k hp1 hv1 p
  have k : op p = 1 ∨ op p = 3 → wX_faults_41 post (nI p) (op p) z (nI c) st po ch fk od op v0 v1 v2 p0 p1 p2 nu R A S sv ro := by
    intro h1
    unfold wX_faults_41
    rw [nI_clamp (by omega : p < 2 ^ 31)]
    refine ⟨hi, hi, ac_wAl hp (by omega) e ?_⟩
    unfold ac_d1 at h
    cases b : bt (A p) (4 * ac_n p1 p + ac_n v1 p)
    · rw [decide_eq_true ⟨h1, b⟩, if_pos rfl] at h
      exact br_t rfl (nm_e (ac_wF64 hp hv2 hp2 _ h))
    · rw [decide_eq_false (fun w => by rw [b] at w; exact nomatch w.2), if_neg (fun w => nomatch w), Int32.add_zero] at h
      exact br_f ac_1ne (ac_wF64 hp hv2 hp2 _ h)
  unfold wX_faults_30
  refine br_c (fun h1 => k (Or.inl h1)) (fun h1 => br_c (fun h3 => k (Or.inr h3)) (fun h3 => ac_wF64 hp hv2 hp2 _ ?_))
  unfold ac_d1 at h
  rw [decide_eq_false (fun w => w.1.elim h1 h3), if_neg (fun w => nomatch w), Int32.add_zero] at h
  exact h
theorem ac_wFa {post : Int32 → Prop} {p : Nat} (hc : c ≤ 14) (hp : p < c) (hv1 : ac_In 4 v1) (hp1 : ac_In 5 p1) (hv2 : ac_In 4 v2) (hp2 : ac_In 5 p2) (h : post (ac_fv op v1 v2 p1 p2 nu R A c p)) : wpX_faults post (nI c, st, po, ch, fk, od, op, v0, v1, v2, p0, p1, p2, nu, R, A, S, sv, ro) (nI p) := by
  unfold wpX_faults
  dsimp only
  unfold ac_fv at h
  by_cases h0 : R p = 0
  · rw [if_pos h0] at h
    exact ac_wRe0 hc hp h0 (br_t rfl h)
  · rw [if_neg h0] at h
    refine ac_wRe1 hc hp h0 (br_f ac_1ne ⟨vp_in_nI (by omega) (by omega), ?_⟩)
    rw [nI_clamp (by omega : p < 2 ^ 31)]
    refine nm_e (ac_wLv hc hp ?_)
    cases e : decide (ac_lv op nu c p)
    · rw [e] at h
      refine br_t rfl (ac_wF30 (by omega) hv1 hp1 hv2 hp2 0 ?_)
      revert h
      cases ac_d1 op v1 p1 A p <;> cases ac_d2 op v2 p2 A p <;> exact id
    · rw [e] at h
      refine br_f ac_1ne (ac_wF30 (by omega) hv1 hp1 hv2 hp2 4 ?_)
      revert h
      cases ac_d1 op v1 p1 A p <;> cases ac_d2 op v2 p2 A p <;> exact id
theorem ac_wFaO {post : Int32 → Prop} {x : Int32} (hx : ¬ (¬ x < 0 ∧ ¬ nI c ≤ x)) (h : post 0) : wpX_faults post (nI c, st, po, ch, fk, od, op, v0, v1, v2, p0, p1, p2, nu, R, A, S, sv, ro) x := by
  unfold wpX_faults
  exact ac_wReO hx (br_t rfl h)
end
end
section
section
variable {c : Nat} {dg ay fo bi sd : Int32} {op v0 v1 v2 p0 p1 p2 nu nv va la C W O : Nat → Int32}
theorem ac_yIns {post : Int32 → Prop} (x : Int32) (h0 : ¬ x < 0 ∧ ¬ nI c ≤ x → post 1) (h1 : ¬ (¬ x < 0 ∧ ¬ nI c ≤ x) → post 0) : wpY_inside post (nI c, dg, ay, fo, bi, sd, op, v0, v1, v2, p0, p1, p2, nv, C, W, O, va, la) x := by
  unfold wpY_inside
  exact br_c (fun z => h1 (fun y => y.1 z)) (fun z => br_c (fun z2 => h1 (fun y => y.2 z2)) (fun z2 => h0 ⟨z, z2⟩))
theorem ac_y165 {post : Int32 → SY → Prop} (f1 f2 f3 : Bool) (h : post (ac_sum f1 f2 f3) (nI c, dg, ay, fo, bi, sd, op, v0, v1, v2, p0, p1, p2, nv, C, W, O, va, la)) : wY_faults_165 post (ac_bI f1) (ac_bI f2) (ac_bI f3) (nI c) dg ay fo bi sd op v0 v1 v2 p0 p1 p2 nv C W O va la := by
  unfold wY_faults_165 wY_faults_176 wY_faults_186
  cases f1 with
  | false =>
    refine br_t rfl ?_
    cases f2 with
    | false =>
      refine br_t rfl ?_
      cases f3 with
      | false => exact br_t rfl h
      | true => exact br_f ac_1ne h
    | true =>
      refine br_f ac_1ne ?_
      cases f3 with
      | false => exact br_t rfl h
      | true => exact br_f ac_1ne h
  | true =>
    refine br_f ac_1ne ?_
    cases f2 with
    | false =>
      refine br_t rfl ?_
      cases f3 with
      | false => exact br_t rfl h
      | true => exact br_f ac_1ne h
    | true =>
      refine br_f ac_1ne ?_
      cases f3 with
      | false => exact br_t rfl h
      | true => exact br_f ac_1ne h
theorem ac_y112 {post : Int32 → SY → Prop} {p : Nat} (hnv : ∀ i, op i ≠ 7 → nv i = nu i) (hc : c ≤ 14) (hp : p < c) (f1 f2 : Bool) (h : post (ac_sum f1 f2 (decide (ac_lv op nu c p))) (nI c, dg, ay, fo, bi, sd, op, v0, v1, v2, p0, p1, p2, nv, C, W, O, va, la)) : wY_faults_112 post (nI p) (op p) (ac_bI f1) (ac_bI f2) (nI c) dg ay fo bi sd op v0 v1 v2 p0 p1 p2 nv C W O va la := by
  have hi : vp_in (nI p) 14 := vp_in_nI (by omega) (by omega)
  unfold wY_faults_112
  rw [nI_1 p]
  have k : ¬ (op p ≠ 6 ∧ op p ≠ 7 ∧ ¬ p + 1 < c) → wY_faults_136 post (nI p) (op p) (ac_bI f1) (ac_bI f2) (nI c) dg ay fo bi sd op v0 v1 v2 p0 p1 p2 nv C W O va la := by
    intro z
    have k2 : op p = 5 ∨ op p = 6 → wY_faults_147 post (nI p) (ac_bI f1) (ac_bI f2) (nI c) dg ay fo bi sd op v0 v1 v2 p0 p1 p2 nv C W O va la := by
      intro h5
      unfold wY_faults_147 wY_faults_160 wY_faults_164
      have en : nv p = nu p := hnv p (by rcases h5 with y | y <;> rw [y] <;> decide)
      rw [nI_clamp (by omega : p < 2 ^ 31), en]
      refine ⟨hi, ac_yIns _ (fun y => br_f ac_1ne ?_) (fun y => br_t rfl ?_)⟩
      · rw [decide_eq_false (fun w => w.elim z (fun w2 => w2.2 y))] at h; exact ac_y165 f1 f2 false h
      · rw [decide_eq_true (Or.inr ⟨h5, y⟩)] at h; exact ac_y165 f1 f2 true h
    unfold wY_faults_136 wY_faults_164
    refine br_c (fun h5 => k2 (Or.inl h5)) (fun h5 => br_c (fun h6 => k2 (Or.inr h6)) (fun h6 => ?_))
    rw [decide_eq_false (fun w => w.elim z (fun w2 => w2.1.elim h5 h6))] at h; exact ac_y165 f1 f2 false h
  unfold wY_faults_160
  refine br_c (fun h6 => k (fun z => z.1 h6)) (fun h6 => br_c (fun h7 => k (fun z => z.2.1 h7)) (fun h7 => ac_yIns _ (fun y => br_f ac_1ne ?_) (fun y => br_t rfl ?_)))
  · exact k (fun z => z.2.2 ((ac_p1 (by omega) hc).mp y))
  · rw [ac_p1 (by omega) hc] at y
    rw [decide_eq_true (Or.inl ⟨h6, h7, y⟩)] at h; exact ac_y165 f1 f2 true h
theorem ac_yBit {A : Nat → Int32} {p k : Nat} (hk : k < 20) (hO : O p = A p ^^^ 1048575) : ((O p >>> (nI k &&& 31)) &&& 1) = 1 ↔ bt (A p) k = false := by
  rw [ac_sb (O p) (by omega), hO, ac_xm _ hk]; cases bt (A p) k <;> simp
theorem ac_y73 {post : Int32 → SY → Prop} {p : Nat} (hnv : ∀ i, op i ≠ 7 → nv i = nu i) (hc : c ≤ 14) (hp : p < c) {A : Nat → Int32} (hO : O p = A p ^^^ 1048575) (hv2 : ac_In 4 v2) (hp2 : ac_In 5 p2) (f1 : Bool) (h : post (ac_sum f1 (ac_d2 op v2 p2 A p) (decide (ac_lv op nu c p))) (nI c, dg, ay, fo, bi, sd, op, v0, v1, v2, p0, p1, p2, nv, C, W, O, va, la)) : wY_faults_73 post (nI p) (op p) (ac_bI f1) (nI c) dg ay fo bi sd op v0 v1 v2 p0 p1 p2 nv C W O va la := by
  have hi : vp_in (nI p) 14 := vp_in_nI (by omega) (by omega)
  obtain ⟨l, e⟩ := ac_4k hp2 hv2 p
  unfold wY_faults_73 wY_faults_111
  rw [nI_clamp (by omega : p < 2 ^ 31), e]
  unfold ac_d2 at h
  refine br_c (fun h1 => ⟨hi, hi, hi, br_c (fun b => ?_) (fun b => ?_)⟩) (fun h1 => ?_)
  · rw [decide_eq_true ⟨h1, (ac_yBit l hO).mp b⟩] at h
    exact ac_y112 hnv hc hp f1 true h
  · rw [decide_eq_false (fun w => b ((ac_yBit l hO).mpr w.2))] at h
    exact ac_y112 hnv hc hp f1 false h
  · rw [decide_eq_false (fun w => h1 w.1)] at h
    exact ac_y112 hnv hc hp f1 false h
theorem ac_y40 {post : Int32 → SY → Prop} {p : Nat} (hnv : ∀ i, op i ≠ 7 → nv i = nu i) (hc : c ≤ 14) (hp : p < c) {A : Nat → Int32} (hO : O p = A p ^^^ 1048575) (hv1 : ac_In 4 v1) (hp1 : ac_In 5 p1) (hv2 : ac_In 4 v2) (hp2 : ac_In 5 p2) (h1 : op p = 1 ∨ op p = 3) (h : post (ac_sum (ac_d1 op v1 p1 A p) (ac_d2 op v2 p2 A p) (decide (ac_lv op nu c p))) (nI c, dg, ay, fo, bi, sd, op, v0, v1, v2, p0, p1, p2, nv, C, W, O, va, la)) : wY_faults_40 post (nI p) (op p) (nI c) dg ay fo bi sd op v0 v1 v2 p0 p1 p2 nv C W O va la := by
  have hi : vp_in (nI p) 14 := vp_in_nI (by omega) (by omega)
  obtain ⟨l, e⟩ := ac_4k hp1 hv1 p
  unfold wY_faults_40 wY_faults_72
  rw [nI_clamp (by omega : p < 2 ^ 31), e]
  unfold ac_d1 at h
  refine ⟨hi, hi, hi, br_c (fun b => ?_) (fun b => ?_)⟩
  · rw [decide_eq_true ⟨h1, (ac_yBit l hO).mp b⟩] at h
    exact ac_y73 hnv hc hp hO hv2 hp2 true h
  · rw [decide_eq_false (fun w => b ((ac_yBit l hO).mpr w.2))] at h
    exact ac_y73 hnv hc hp hO hv2 hp2 false h
end
section
variable {c : Nat} {dg ay fo bi sd : Int32} {op v0 v1 v2 p0 p1 p2 nu nv va la C W O R A S : Nat → Int32} {s0 : ac_T}
theorem ac_yFa {post : Int32 → SY → Prop} {p : Nat} (hnv : ∀ i, op i ≠ 7 → nv i = nu i) (hc : c ≤ 14) (hP : ac_Prg op v0 v1 v2 p0 p1 p2) (hI : ac_Ini c s0) (hE : (R, A, S) = ac_it (ac_F op v0 v1 p0 p1 nu c) 575 s0) (hp : p < c)
    (h : ∀ C W O : Nat → Int32, post (ac_fv op v1 v2 p1 p2 nu R A c p) (nI c, dg, ay, fo, bi, sd, op, v0, v1, v2, p0, p1, p2, nv, C, W, O, va, la)) : wpY_faults post (nI c, dg, ay, fo, bi, sd, op, v0, v1, v2, p0, p1, p2, nv, C, W, O, va, la) (nI p) := by
  obtain ⟨hop, hv0, hv1, hv2, hp0, hp1, hp2⟩ := hP
  unfold wpY_faults
  dsimp only
  refine ac_yCol hnv hv0 hv1 hp0 hp1 hc hI ?_
  rw [← hE]
  intro C W O hS
  have hi : vp_in (nI p) 14 := vp_in_nI (by omega) (by omega)
  have h := h C W O
  dsimp only
  rw [nI_clamp (by omega : p < 2 ^ 31)]
  refine ac_yIns _ (fun _ => br_f ac_1ne ⟨hi, ?_⟩) (fun z => absurd (ac_inC hp hc) z)
  unfold ac_fv at h
  rcases hS p hp with ⟨z1, z2, _, _⟩ | ⟨z1, z2, _, zO, _, _⟩
  · have z1' : R p = 0 := z1
    rw [if_pos z1'] at h
    exact br_t z2 h
  · have z1' : ¬ R p = 0 := by rw [show R p = 1 from z1]; decide
    rw [if_neg z1'] at h
    refine br_f (by rw [z2]; decide) ⟨hi, nm_e (br_c (fun h1 => ?_) (fun h1 => br_c (fun h3 => ?_) (fun h3 => ?_)))⟩
    · exact ac_y40 hnv hc hp zO hv1 hp1 hv2 hp2 (Or.inl h1) h
    · exact ac_y40 hnv hc hp zO hv1 hp1 hv2 hp2 (Or.inr h3) h
    · unfold ac_d1 at h
      rw [decide_eq_false (fun w => w.1.elim h1 h3)] at h
      exact ac_y73 hnv hc hp zO hv2 hp2 false h
theorem ac_yFaO {post : Int32 → SY → Prop} {x : Int32} (hnv : ∀ i, op i ≠ 7 → nv i = nu i) (hc : c ≤ 14) (hP : ac_Prg op v0 v1 v2 p0 p1 p2) (hI : ac_Ini c s0) (hx : ¬ (¬ x < 0 ∧ ¬ nI c ≤ x))
    (h : ∀ C W O : Nat → Int32, post 0 (nI c, dg, ay, fo, bi, sd, op, v0, v1, v2, p0, p1, p2, nv, C, W, O, va, la)) : wpY_faults post (nI c, dg, ay, fo, bi, sd, op, v0, v1, v2, p0, p1, p2, nv, C, W, O, va, la) x := by
  obtain ⟨hop, hv0, hv1, hv2, hp0, hp1, hp2⟩ := hP
  unfold wpY_faults
  dsimp only
  refine ac_yCol hnv hv0 hv1 hp0 hp1 hc hI ?_
  intro C W O hS
  exact ac_yIns _ (fun z => absurd z hx) (fun _ => br_t rfl (h C W O))
theorem ac_yReO {post : Int32 → SY → Prop} {x : Int32} (hnv : ∀ i, op i ≠ 7 → nv i = nu i) (hc : c ≤ 14) (hP : ac_Prg op v0 v1 v2 p0 p1 p2) (hI : ac_Ini c s0) (hx : ¬ (¬ x < 0 ∧ ¬ nI c ≤ x))
    (h : ∀ C W O : Nat → Int32, post 0 (nI c, dg, ay, fo, bi, sd, op, v0, v1, v2, p0, p1, p2, nv, C, W, O, va, la)) : wpY_reached post (nI c, dg, ay, fo, bi, sd, op, v0, v1, v2, p0, p1, p2, nv, C, W, O, va, la) x := by
  obtain ⟨hop, hv0, hv1, hv2, hp0, hp1, hp2⟩ := hP
  unfold wpY_reached
  dsimp only
  refine ac_yCol hnv hv0 hv1 hp0 hp1 hc hI ?_
  intro C W O hS
  exact ac_yIns _ (fun z => absurd z hx) (fun _ => br_t rfl (h C W O))
theorem ac_yRe {post : Int32 → SY → Prop} {p : Nat} (hnv : ∀ i, op i ≠ 7 → nv i = nu i) (hc : c ≤ 14) (hP : ac_Prg op v0 v1 v2 p0 p1 p2) (hI : ac_Ini c s0) (hE : (R, A, S) = ac_it (ac_F op v0 v1 p0 p1 nu c) 575 s0) (hp : p < c)
    (h : ∀ C W O : Nat → Int32, post (if R p = 0 then 0 else 1) (nI c, dg, ay, fo, bi, sd, op, v0, v1, v2, p0, p1, p2, nv, C, W, O, va, la)) : wpY_reached post (nI c, dg, ay, fo, bi, sd, op, v0, v1, v2, p0, p1, p2, nv, C, W, O, va, la) (nI p) := by
  obtain ⟨hop, hv0, hv1, hv2, hp0, hp1, hp2⟩ := hP
  unfold wpY_reached
  dsimp only
  refine ac_yCol hnv hv0 hv1 hp0 hp1 hc hI ?_
  rw [← hE]
  intro C W O hS
  have hi : vp_in (nI p) 14 := vp_in_nI (by omega) (by omega)
  have h := h C W O
  dsimp only
  rw [nI_clamp (by omega : p < 2 ^ 31)]
  refine ac_yIns _ (fun _ => br_f ac_1ne ⟨hi, ?_⟩) (fun z => absurd (ac_inC hp hc) z)
  by_cases z : R p = 0
  · rw [if_pos z] at h
    exact br_t ((ac_SimR hS hp).mpr z) h
  · rw [if_neg z] at h
    exact br_f (fun y => z ((ac_SimR hS hp).mp y)) h
theorem ac_yPl {post : Int32 → Prop} (x : Int32) (h1 : ¬ x < 0 ∧ ¬ 5 ≤ x → post 1) (h0 : ¬ (¬ x < 0 ∧ ¬ 5 ≤ x) → post 0) : wpY_place post (nI c, dg, ay, fo, bi, sd, op, v0, v1, v2, p0, p1, p2, nv, C, W, O, va, la) x := by
  unfold wpY_place
  refine br_c (fun z => h0 (fun y => y.1 z)) (fun z => br_c (fun z2 => h0 (fun y => y.2 ?_)) (fun z2 => h1 ⟨z, fun y => z2 ?_⟩))
  · rw [Int32.lt_iff_toInt_lt] at z2
    rw [Int32.le_iff_toInt_le]
    rw [show (4 : Int32).toInt = 4 from by decide] at z2
    rw [show (5 : Int32).toInt = 5 from by decide]
    omega
  · rw [Int32.le_iff_toInt_le] at y
    rw [Int32.lt_iff_toInt_lt]
    rw [show (5 : Int32).toInt = 5 from by decide] at y
    rw [show (4 : Int32).toInt = 4 from by decide]
    omega
theorem ac_yVa {post : Int32 → Prop} (x : Int32) (h1 : ¬ x < 0 ∧ ¬ 4 ≤ x → post 1) (h0 : ¬ (¬ x < 0 ∧ ¬ 4 ≤ x) → post 0) : wpY_value post (nI c, dg, ay, fo, bi, sd, op, v0, v1, v2, p0, p1, p2, nv, C, W, O, va, la) x := by
  unfold wpY_value
  refine br_c (fun z => h0 (fun y => y.1 z)) (fun z => br_c (fun z2 => h0 (fun y => y.2 ?_)) (fun z2 => h1 ⟨z, fun y => z2 ?_⟩))
  · rw [Int32.lt_iff_toInt_lt] at z2
    rw [Int32.le_iff_toInt_le]
    rw [show (3 : Int32).toInt = 3 from by decide] at z2
    rw [show (4 : Int32).toInt = 4 from by decide]
    omega
  · rw [Int32.le_iff_toInt_le] at y
    rw [Int32.lt_iff_toInt_lt]
    rw [show (4 : Int32).toInt = 4 from by decide] at y
    rw [show (3 : Int32).toInt = 3 from by decide]
    omega
end
theorem ac_xPl {post : Int32 → Prop} (x : Int32) (h1 : ¬ x < 0 ∧ ¬ 5 ≤ x → post 1) (h0 : ¬ (¬ x < 0 ∧ ¬ 5 ≤ x) → post 0) : wpX_isPlace post x := by
  unfold wpX_isPlace
  exact br_c (fun z => h0 (fun y => y.1 z)) (fun z => br_c (fun z2 => h0 (fun y => y.2 z2)) (fun z2 => h1 ⟨z, z2⟩))
theorem ac_xVa {post : Int32 → Prop} (x : Int32) (h1 : ¬ x < 0 ∧ ¬ 4 ≤ x → post 1) (h0 : ¬ (¬ x < 0 ∧ ¬ 4 ≤ x) → post 0) : wpX_isValue post x := by
  unfold wpX_isValue
  exact br_c (fun z => h0 (fun y => y.1 z)) (fun z => br_c (fun z2 => h0 (fun y => y.2 z2)) (fun z2 => h1 ⟨z, z2⟩))
theorem ac_nPl {x : Int32} (h : ¬ x < 0 ∧ ¬ 5 ≤ x) : ∃ j, j < 5 ∧ x = nI j := by
  obtain ⟨j, hj, rfl⟩ := nI_of h.1
  have h2 := h.2
  rw [show (5 : Int32) = nI 5 from rfl, nI_leI (by omega) hj] at h2
  exact ⟨j, by omega, rfl⟩
theorem ac_nVa {x : Int32} (h : ¬ x < 0 ∧ ¬ 4 ≤ x) : ∃ j, j < 4 ∧ x = nI j := by
  obtain ⟨j, hj, rfl⟩ := nI_of h.1
  have h2 := h.2
  rw [show (4 : Int32) = nI 4 from rfl, nI_leI (by omega) hj] at h2
  exact ⟨j, by omega, rfl⟩
theorem ac_carr {x y : Int32} (hx : ac_lo x) (hy : ac_lo y) {q : Nat} (hq : q < 5) :
    (15 &&& ((((x ^^^ 1048575) >>> (nI (4 * q) &&& 31)) &&& 15) ^^^ (-1))) ||| (((y >>> (nI (4 * q) &&& 31)) &&& 15) <<< ((4 : Int32) &&& 31)) =
    (((x.toUInt32 >>> ((nI (4 * q)).toUInt32 &&& Int32.toUInt32 31)).toInt32) &&& 15) ||| ((((y.toUInt32 >>> ((nI (4 * q)).toUInt32 &&& Int32.toUInt32 31)).toInt32) &&& 15) <<< ((4 : Int32) &&& 31)) := by
  apply b_ext
  intro b hb
  have e4 : ∀ z : Int32, bt (z <<< ((4 : Int32) &&& 31)) b = (decide (4 ≤ b) && bt z (b - 4)) := fun z => b_shl 4 (by omega) z hb
  rw [b_or, b_or, e4, e4, b_and, b_and, b_and, b_and, ac_not _ hb, b_and, ac_t4 b hb, ac_t4 (b - 4) (by omega), b_ushr (4 * q) (by omega), b_ushr (4 * q) (by omega), b_sshr (4 * q) (by omega) _ hb, b_sshr (4 * q) (by omega) _ (by omega : b - 4 < 32)]
  have g1 : (decide (b < 4) && !((if 4 * q + b < 32 then bt (x ^^^ 1048575) (4 * q + b) else bt (x ^^^ 1048575) 31) && decide (b < 4))) = (bt x (4 * q + b) && decide (b < 4)) := by
    by_cases h : b < 4
    · rw [if_pos (by omega), ac_xm x (by omega), decide_eq_true h]; cases bt x (4 * q + b) <;> rfl
    · rw [decide_eq_false h]; simp
  have g2 : (decide (4 ≤ b) && ((if 4 * q + (b - 4) < 32 then bt y (4 * q + (b - 4)) else bt y 31) && decide (b - 4 < 4))) = (decide (4 ≤ b) && (bt y (4 * q + (b - 4)) && decide (b - 4 < 4))) := by
    by_cases h : b - 4 < 4
    · rw [if_pos (by omega)]
    · rw [decide_eq_false h]; simp
  rw [g1, g2]
/-! sound -/
def ac_so (f : Nat → Int32) : Nat → Nat → Bool
  | 0, _ => true
  | d + 1, j => decide (f j = 0) && ac_so f d (j + 1)
section
variable {c : Nat} {st po ch fk od : Int32} {op v0 v1 v2 p0 p1 p2 nu sv ro R A S : Nat → Int32}
theorem ac_wSo {post : Int32 → Prop} (hc : c ≤ 14) (hv1 : ac_In 4 v1) (hp1 : ac_In 5 p1) (hv2 : ac_In 4 v2) (hp2 : ac_In 5 p2) :
    ∀ (d j n : Nat), j + d = c → d < n → post (ac_bI (decide (0 < c) && ac_so (ac_fv op v1 v2 p1 p2 nu R A c) d j)) → wX_sound_2 post (nI c) st po ch fk od op v0 v1 v2 p0 p1 p2 nu R A S sv ro n (nI j) := by
  intro d
  induction d with
  | zero =>
    intro j n hd hn h
    cases n with
    | zero => omega
    | succ n =>
      refine br_t (nI_le (by omega) (by omega)) ?_
      rcases Nat.eq_zero_or_pos c with z | z
      · rw [decide_eq_false (by omega)] at h
        exact br_t (by rw [z]; decide) h
      · rw [decide_eq_true z] at h
        exact br_f (nI_nle z (by omega)) h
  | succ d ih =>
    intro j n hd hn h
    cases n with
    | zero => omega
    | succ n =>
      refine br_f (nI_ge (by omega) (by omega)) (ac_wFa hc (by omega) hv1 hp1 hv2 hp2 ?_)
      unfold ac_so at h
      by_cases z : ac_fv op v1 v2 p1 p2 nu R A c j = 0
      · rw [decide_eq_true z, Bool.true_and] at h
        exact br_t z (nm_r (nI_1 j) (ih (j + 1) n (by omega) (by omega) h))
      · rw [decide_eq_false z, Bool.false_and, Bool.and_false] at h
        exact br_f z h
end
section
variable {c : Nat} {dg ay fo bi sd : Int32} {op v0 v1 v2 p0 p1 p2 nu nv va la R A S : Nat → Int32} {s0 : ac_T}
theorem ac_ySo {post : Int32 → SY → Prop} (hnv : ∀ i, op i ≠ 7 → nv i = nu i) (hc : c ≤ 14) (hP : ac_Prg op v0 v1 v2 p0 p1 p2) (hI : ac_Ini c s0) (hE : (R, A, S) = ac_it (ac_F op v0 v1 p0 p1 nu c) 575 s0) :
    ∀ (d j n : Nat) (a : Int32) (C W O : Nat → Int32), j + d = c → d < n → (∀ C W O : Nat → Int32, post (ac_bI (decide (0 < c) && (decide (a = 0) && ac_so (ac_fv op v1 v2 p1 p2 nu R A c) d j))) (nI c, dg, ay, fo, bi, sd, op, v0, v1, v2, p0, p1, p2, nv, C, W, O, va, la)) → wY_sound_4 post n a (nI j) (nI c) dg ay fo bi sd op v0 v1 v2 p0 p1 p2 nv C W O va la := by
  intro d
  induction d with
  | zero =>
    intro j n a C W O hd hn h
    cases n with
    | zero => omega
    | succ n =>
      have h := h C W O
      refine br_t (nI_le (by omega) (by omega)) ?_
      rcases Nat.eq_zero_or_pos c with z | z
      · rw [decide_eq_false (by omega)] at h
        exact br_t (by rw [z]; decide) h
      · rw [decide_eq_true z] at h
        refine br_f (nI_nle z (by omega)) (br_c (fun e => ?_) (fun e => ?_))
        · rw [decide_eq_true e] at h; exact h
        · rw [decide_eq_false e] at h; exact h
  | succ d ih =>
    intro j n a C W O hd hn h
    cases n with
    | zero => omega
    | succ n =>
      refine br_f (nI_ge (by omega) (by omega)) (ac_yFa hnv hc hP hI hE (by omega) ?_)
      intro C' W' O'
      refine nm_e (nm_r (nI_1 j) (ih (j + 1) n _ C' W' O' (by omega) (by omega) ?_))
      intro C2 W2 O2
      have h := h C2 W2 O2
      unfold ac_so at h
      rw [← Bool.and_assoc (decide (a = 0)), ← Bool.decide_and] at h
      rw [show decide (a ||| ac_fv op v1 v2 p1 p2 nu R A c j = 0) = decide (a = 0 ∧ ac_fv op v1 v2 p1 p2 nu R A c j = 0) from decide_eq_decide.mpr ac_or0]
      exact h
end
end
section
section
variable {c : Nat} {dg ay fo bi sd : Int32} {op v0 v1 v2 p0 p1 p2 nv va C W O : Nat → Int32}
theorem ac_ySh {x1 : Int32} : ∀ (x : Nat) (la : Nat → Int32), x ≤ 7 → ∃ la' : Nat → Int32, (∀ j, 1 ≤ j → j ≤ x → la' j = la (j - 1)) ∧ (∀ j, x < j → la' j = la j) ∧
    ∀ (post : SY → Prop) (n : Nat), wY_carryOut_88 post x1 (nI c) dg ay fo bi sd (n + 1) (nI 0) op v0 v1 v2 p0 p1 p2 nv C W O va la' → wY_carryOut_88 post x1 (nI c) dg ay fo bi sd (n + 1 + x) (nI x) op v0 v1 v2 p0 p1 p2 nv C W O va la := by
  intro x
  induction x with
  | zero => intro la _; exact ⟨la, fun j h1 h2 => absurd h1 (by omega), fun _ _ => rfl, fun _ _ h => h⟩
  | succ x ih =>
    intro la hx
    obtain ⟨la', h1, h2, h3⟩ := ih (upd la (x + 1) (la x)) (by omega)
    refine ⟨la', fun j j1 j2 => ?_, fun j hj => ?_, fun post n h => ?_⟩
    · by_cases e : j = x + 1
      · subst e
        rw [h2 _ (by omega), pk_us]; rfl
      · rw [h1 j j1 (by omega), pk_un (by omega)]
    · rw [h2 j (by omega), pk_un (by omega)]
    · refine br_f (nI_nle (by omega) (by omega)) ?_
      rw [nI_pred x, pk_m1 x, nI_clamp (by omega : x < 2 ^ 31), nI_clamp (by omega : x + 1 < 2 ^ 31)]
      exact ⟨vp_in_nI (by omega) (by omega), vp_in_nI (by omega) (by omega), nm_e (nm_e (h3 post n h))⟩
end
section
variable {c : Nat} {ch fk : Int32} {od B p : Nat} {op v0 v1 v2 p0 p1 p2 nu nv R A S sv ro C W O la : Nat → Int32} {s0 : ac_T}
theorem ac_co (hc : c ≤ 14) (hp : p < c) (hB : od ≤ B) (hBB : B < 2 ^ 30) (hnv : ∀ i, op i ≠ 7 → nv i = nu i) (hP : ac_Prg op v0 v1 v2 p0 p1 p2) (hI : ac_Ini c s0) (hE : (R, A, S) = ac_it (ac_F op v0 v1 p0 p1 nu c) 575 s0)
    (hr : ∀ j, j < 8 → j < od → ro ((od - 1 - j) % 8) = la j) :
    ∃ (u' : SX) (v' : SY), ac_Rel (B + 1) u' v' ∧ (∀ post : SX → Prop, post u' → wpX_carryOut post (nI c, 1, nI p, ch, fk, nI od, op, v0, v1, v2, p0, p1, p2, nu, R, A, S, sv, ro) (nI p)) ∧ (∀ post : SY → Prop, post v' → wpY_carryOut post (nI c, 1, nI p, fk, ch, nI od, op, v0, v1, v2, p0, p1, p2, nv, C, W, O, sv, la) (nI p)) := by
  have hP' := hP
  obtain ⟨hop, hv0, hv1, hv2, hp0, hp1, hp2⟩ := hP
  have hi : vp_in (nI p) 14 := vp_in_nI (by omega) (by omega)
  have hcl : (nI p).toNatClampNeg = p := nI_clamp (by omega)
  have iv0 : vp_in (v0 p) 4 := by rw [(ac_InN hv0 (by omega) p).2]; exact vp_in_nI (ac_InN hv0 (by omega) p).1 (by omega)
  have iv1 : vp_in (v1 p) 4 := by rw [(ac_InN hv1 (by omega) p).2]; exact vp_in_nI (ac_InN hv1 (by omega) p).1 (by omega)
  have iv2 : vp_in (v2 p) 4 := by rw [(ac_InN hv2 (by omega) p).2]; exact vp_in_nI (ac_InN hv2 (by omega) p).1 (by omega)
  have run : ∀ (po' fk' : Int32), ac_Run (B + 1) 1 po' ch fk' od po' fk' ch (nI od) ro la := fun po' fk' => ⟨fun z => absurd z ac_1ne, fun _ => ⟨rfl, by omega, hr⟩, fun _ => ⟨rfl, rfl, rfl⟩⟩
  obtain ⟨o, ho, eo⟩ := hop p
  have ho2 : o = 0 ∨ o = 1 ∨ o = 2 ∨ o = 3 ∨ o = 4 ∨ o = 5 ∨ o = 6 ∨ o = 7 := by omega
  rcases ho2 with rfl | rfl | rfl | rfl | rfl | rfl | rfl | rfl
  · have en : nv p = nu p := hnv p (by rw [eo]; decide)
    refine ⟨_, _, ⟨c, 1, nI (p + 1), ch, fk, od, op, v0, v1, v2, p0, p1, p2, nu, R, A, S, upd sv (v0 p).toNatClampNeg (nu p), ro, nI (p + 1), fk, ch, nI od, nv, C, W, O, la, s0, rfl, rfl, hc, hnv, hP', hI, hE, run _ _⟩, fun post h => ?_, fun post h => ?_⟩
    · unfold wpX_carryOut
      dsimp only
      rw [hcl]
      exact ⟨hi, nm_e ⟨hi, nm_e (nm_r (nI_1 p) ⟨hi, nm_r eo (br_f (by decide) (br_f (by decide) (br_t (by decide) ⟨hi, iv0, nm_e h⟩)))⟩)⟩⟩
    · unfold wpY_carryOut
      dsimp only
      rw [hcl, en]
      exact ⟨hi, nm_r eo (nm_r (nI_1 p) (br_t (by decide) ⟨hi, hi, iv0, nm_e h⟩))⟩
  · refine ⟨_, _, ⟨c, 1, nI (p + 1), ch, fk, od, op, v0, v1, v2, p0, p1, p2, nu, R, A, S, upd sv (v0 p).toNatClampNeg (sv (v1 p).toNatClampNeg + sv (v2 p).toNatClampNeg), ro, nI (p + 1), fk, ch, nI od, nv, C, W, O, la, s0, rfl, rfl, hc, hnv, hP', hI, hE, run _ _⟩, fun post h => ?_, fun post h => ?_⟩
    · unfold wpX_carryOut
      dsimp only
      rw [hcl]
      exact ⟨hi, nm_e ⟨hi, nm_e (nm_r (nI_1 p) ⟨hi, nm_r eo (br_f (by decide) (br_f (by decide) (br_f (by decide) (br_t (by decide) ⟨iv1, hi, iv2, iv0, nm_e h⟩))))⟩)⟩⟩
    · unfold wpY_carryOut
      dsimp only
      rw [hcl]
      exact ⟨hi, nm_r eo (nm_r (nI_1 p) (br_f (by decide) (br_t (by decide) ⟨hi, hi, iv1, hi, iv2, iv0, nm_e h⟩)))⟩
  · refine ⟨_, _, ⟨c, 1, nI (p + 1), ch, fk, od, op, v0, v1, v2, p0, p1, p2, nu, R, A, S, sv, ro, nI (p + 1), fk, ch, nI od, nv, C, W, O, la, s0, rfl, rfl, hc, hnv, hP', hI, hE, run _ _⟩, fun post h => ?_, fun post h => ?_⟩
    · unfold wpX_carryOut
      dsimp only
      rw [hcl]
      exact ⟨hi, nm_e ⟨hi, nm_e (nm_r (nI_1 p) ⟨hi, nm_r eo (br_f (by decide) (br_f (by decide) (br_f (by decide) (br_f (by decide) (br_t (by decide) h)))))⟩)⟩⟩
    · unfold wpY_carryOut
      dsimp only
      rw [hcl]
      exact ⟨hi, nm_r eo (nm_r (nI_1 p) (br_f (by decide) (br_f (by decide) (br_f (by decide) (br_f (by decide) (br_f (by decide) (br_f (by decide) (br_f (by decide) h))))))))⟩
  · obtain ⟨la', s1, s2, s3⟩ := ac_ySh (c := c) (dg := 1) (ay := nI (p + 1)) (fo := fk) (bi := ch) (sd := nI od) (op := op) (v0 := v0) (v1 := v1) (v2 := v2) (p0 := p0) (p1 := p1) (p2 := p2) (nv := nv) (va := sv) (C := C) (W := W) (O := O) (x1 := nI p) 7 la (by omega)
    have hr' : ∀ j, j < 8 → j < od + 1 → upd ro (od % 8) (sv (v1 p).toNatClampNeg) ((od + 1 - 1 - j) % 8) = upd la' 0 (sv (v1 p).toNatClampNeg) j := by
      intro j j8 jo
      by_cases e : j = 0
      · subst e
        rw [pk_us, Nat.add_sub_cancel, Nat.sub_zero, pk_us]
      · rw [pk_un e, s1 j (by omega) (by omega), pk_un (by omega), ← hr (j - 1) (by omega) (by omega)]
        exact congrArg ro (by omega)
    have e7 : nI od &&& 7 = nI (od % 8) := pk_andN (by omega) 3 (by decide)
    refine ⟨_, _, ⟨c, 1, nI (p + 1), ch, fk, od + 1, op, v0, v1, v2, p0, p1, p2, nu, R, A, S, sv, upd ro (od % 8) (sv (v1 p).toNatClampNeg), nI (p + 1), fk, ch, nI (od + 1), nv, C, W, O, upd la' 0 (sv (v1 p).toNatClampNeg), s0, rfl, rfl, hc, hnv, hP', hI, hE, ⟨fun z => absurd z ac_1ne, fun _ => ⟨rfl, by omega, hr'⟩, fun _ => ⟨rfl, rfl, rfl⟩⟩⟩, fun post h => ?_, fun post h => ?_⟩
    · unfold wpX_carryOut
      dsimp only
      rw [hcl]
      refine ⟨hi, nm_e ⟨hi, nm_e (nm_r (nI_1 p) ⟨hi, nm_r eo (br_f (by decide) (br_f (by decide) (br_f (by decide) (br_f (by decide) (br_f (by decide) (br_t (by decide) ⟨iv1, ?_⟩))))))⟩)⟩⟩
      unfold wpX_putOut
      dsimp only
      rw [e7, nI_clamp (by omega)]
      exact ⟨vp_in_nI (by omega) (by omega), nm_e (nm_r (nI_1 od) h)⟩
    · unfold wpY_carryOut
      dsimp only
      rw [hcl]
      refine ⟨hi, nm_r eo (nm_r (nI_1 p) (br_f (by decide) (br_f (by decide) (br_t (by decide) ⟨0 + 1 + 7, s3 post 0 ?_⟩))))⟩
      refine br_t (by decide) ?_
      rw [hcl]
      exact ⟨hi, iv1, nm_e (nm_r (nI_1 od) h)⟩
  · refine ⟨_, _, ⟨c, 1, nI (p + 1), ch, fk, od, op, v0, v1, v2, p0, p1, p2, nu, R, A, S, upd sv (v0 p).toNatClampNeg (sv (v1 p).toNatClampNeg), ro, nI (p + 1), fk, ch, nI od, nv, C, W, O, la, s0, rfl, rfl, hc, hnv, hP', hI, hE, run _ _⟩, fun post h => ?_, fun post h => ?_⟩
    · unfold wpX_carryOut
      dsimp only
      rw [hcl]
      exact ⟨hi, nm_e ⟨hi, nm_e (nm_r (nI_1 p) ⟨hi, nm_r eo (br_f (by decide) (br_f (by decide) (br_f (by decide) (br_f (by decide) (br_f (by decide) (br_f (by decide) (br_t (by decide) ⟨iv1, iv0, nm_e h⟩)))))))⟩)⟩⟩
    · unfold wpY_carryOut
      dsimp only
      rw [hcl]
      exact ⟨hi, nm_r eo (nm_r (nI_1 p) (br_f (by decide) (br_f (by decide) (br_f (by decide) (br_t (by decide) ⟨hi, hi, iv1, iv0, nm_e h⟩)))))⟩
  · have en : nv p = nu p := hnv p (by rw [eo]; decide)
    obtain ⟨b, lb, eb⟩ := pk_andE fk (m := 31) 5 (by decide)
    by_cases hb : bt ch b = true
    · refine ⟨_, _, ⟨c, 1, nu p, ch, fk + 1, od, op, v0, v1, v2, p0, p1, p2, nu, R, A, S, sv, ro, nu p, fk + 1, ch, nI od, nv, C, W, O, la, s0, rfl, rfl, hc, hnv, hP', hI, hE, run _ _⟩, fun post h => ?_, fun post h => ?_⟩
      · unfold wpX_carryOut
        dsimp only
        rw [hcl]
        refine ⟨hi, nm_e ⟨hi, nm_e (nm_r (nI_1 p) ⟨hi, nm_r eo (br_f (by decide) (br_f (by decide) (br_f (by decide) (br_f (by decide) (br_f (by decide) (br_f (by decide) (br_f (by decide) (br_t (by decide) ?_))))))))⟩)⟩⟩
        unfold wpX_nextChoice
        exact nm_r eb (nm_e (br_t ((ac_ub ch lb).mpr hb) (br_f ac_1ne ⟨hi, nm_e h⟩)))
      · unfold wpY_carryOut wY_carryOut_208
        dsimp only
        rw [hcl, en, eb]
        exact ⟨hi, nm_r eo (nm_r (nI_1 p) (br_f (by decide) (br_f (by decide) (br_f (by decide) (br_f (by decide) (br_t (by decide) (br_t ((ac_sb ch lb).mpr hb) ⟨hi, nm_e h⟩)))))))⟩
    · refine ⟨_, _, ⟨c, 1, nI (p + 1), ch, fk + 1, od, op, v0, v1, v2, p0, p1, p2, nu, R, A, S, sv, ro, nI (p + 1), fk + 1, ch, nI od, nv, C, W, O, la, s0, rfl, rfl, hc, hnv, hP', hI, hE, run _ _⟩, fun post h => ?_, fun post h => ?_⟩
      · unfold wpX_carryOut
        dsimp only
        rw [hcl]
        refine ⟨hi, nm_e ⟨hi, nm_e (nm_r (nI_1 p) ⟨hi, nm_r eo (br_f (by decide) (br_f (by decide) (br_f (by decide) (br_f (by decide) (br_f (by decide) (br_f (by decide) (br_f (by decide) (br_t (by decide) ?_))))))))⟩)⟩⟩
        unfold wpX_nextChoice
        exact nm_r eb (nm_e (br_f (fun z => hb ((ac_ub ch lb).mp z)) (br_t rfl (nm_r (nI_1 p) h))))
      · unfold wpY_carryOut wY_carryOut_208
        dsimp only
        rw [hcl, eb, nI_1 p]
        exact ⟨hi, nm_r eo (nm_e (br_f (by decide) (br_f (by decide) (br_f (by decide) (br_f (by decide) (br_t (by decide) (br_f (fun z => hb ((ac_sb ch lb).mp z)) (nm_e h))))))))⟩
  · have en : nv p = nu p := hnv p (by rw [eo]; decide)
    refine ⟨_, _, ⟨c, 1, nu p, ch, fk, od, op, v0, v1, v2, p0, p1, p2, nu, R, A, S, sv, ro, nu p, fk, ch, nI od, nv, C, W, O, la, s0, rfl, rfl, hc, hnv, hP', hI, hE, run _ _⟩, fun post h => ?_, fun post h => ?_⟩
    · unfold wpX_carryOut
      dsimp only
      rw [hcl]
      exact ⟨hi, nm_e ⟨hi, nm_e (nm_r (nI_1 p) ⟨hi, nm_r eo (br_f (by decide) (br_f (by decide) (br_f (by decide) (br_f (by decide) (br_f (by decide) (br_f (by decide) (br_f (by decide) (br_f (by decide) (br_t (by decide) ⟨hi, nm_e h⟩)))))))))⟩)⟩⟩
    · unfold wpY_carryOut
      dsimp only
      rw [hcl, en]
      exact ⟨hi, nm_r eo (nm_r (nI_1 p) (br_f (by decide) (br_f (by decide) (br_f (by decide) (br_f (by decide) (br_f (by decide) (br_t (by decide) ⟨hi, nm_e h⟩)))))))⟩
  · refine ⟨_, _, ⟨c, 2, nI (p + 1), ch, fk, od, op, v0, v1, v2, p0, p1, p2, nu, R, A, S, sv, ro, nI p, fk, ch, nI od, nv, C, W, O, la, s0, rfl, rfl, hc, hnv, hP', hI, hE, ⟨fun z => absurd z (by decide), fun _ => ⟨rfl, by omega, hr⟩, fun z => absurd z (by decide)⟩⟩, fun post h => ?_, fun post h => ?_⟩
    · unfold wpX_carryOut
      dsimp only
      rw [hcl]
      exact ⟨hi, nm_e ⟨hi, nm_e (nm_r (nI_1 p) ⟨hi, nm_r eo (br_f (by decide) (br_f (by decide) (br_f (by decide) (br_f (by decide) (br_f (by decide) (br_f (by decide) (br_f (by decide) (br_f (by decide) (br_f (by decide) (br_t (by decide) h))))))))))⟩)⟩⟩
    · unfold wpY_carryOut
      dsimp only
      rw [hcl]
      exact ⟨hi, nm_r eo (nm_r (nI_1 p) (br_f (by decide) (br_f (by decide) (br_f (by decide) (br_f (by decide) (br_f (by decide) (br_f (by decide) (br_t (by decide) h))))))))⟩
end
theorem ac_stp (l : Nat) (hl : l ≤ 64) : ∀ (d k B c : Nat) (st po ch fk : Int32) (od : Nat) (op v0 v1 v2 p0 p1 p2 nu R A S sv ro : Nat → Int32) (ay fo bi sd : Int32) (nv C W O la : Nat → Int32) (s0 : ac_T),
    k + d = l → B + d < 2 ^ 30 → c ≤ 14 → (∀ i, op i ≠ 7 → nv i = nu i) → ac_Prg op v0 v1 v2 p0 p1 p2 → ac_Ini c s0 → (R, A, S) = ac_it (ac_F op v0 v1 p0 p1 nu c) 575 s0 → ac_Run B st po ch fk od ay fo bi sd ro la →
    ∃ (r : Int32) (u' : SX) (v' : SY), ac_Rel (B + d) u' v' ∧ (∀ post : Int32 → SX → Prop, post r u' → wX_step_15 post (nI l) (d + 1) (nI k) (nI c) st po ch fk (nI od) op v0 v1 v2 p0 p1 p2 nu R A S sv ro) ∧ (∀ post : Int32 → SY → Prop, post r v' → wY_step_26 post (nI l) (d + 1) (nI k) (nI k) (nI c) st ay fo bi sd op v0 v1 v2 p0 p1 p2 nv C W O sv la) := by
  intro d
  induction d with
  | zero =>
    intro k B c st po ch fk od op v0 v1 v2 p0 p1 p2 nu R A S sv ro ay fo bi sd nv C W O la s0 hk hB hc hnv hP hI hE hR
    have e : nI l ≤ nI k := nI_le (by omega) (by omega)
    exact ⟨nI k, _, _, ⟨c, st, po, ch, fk, od, op, v0, v1, v2, p0, p1, p2, nu, R, A, S, sv, ro, ay, fo, bi, sd, nv, C, W, O, la, s0, rfl, rfl, hc, hnv, hP, hI, hE, hR⟩, fun post h => br_t e h, fun post h => br_t e h⟩
  | succ d ih =>
    intro k B c st po ch fk od op v0 v1 v2 p0 p1 p2 nu R A S sv ro ay fo bi sd nv C W O la s0 hk hB hc hnv hP hI hE hR
    have e : ¬ nI l ≤ nI k := nI_ge (by omega) (by omega)
    have rel : ac_Rel (B + (d + 1)) (nI c, st, po, ch, fk, nI od, op, v0, v1, v2, p0, p1, p2, nu, R, A, S, sv, ro) (nI c, st, ay, fo, bi, sd, op, v0, v1, v2, p0, p1, p2, nv, C, W, O, sv, la) := ac_up (by omega) ⟨c, st, po, ch, fk, od, op, v0, v1, v2, p0, p1, p2, nu, R, A, S, sv, ro, ay, fo, bi, sd, nv, C, W, O, la, s0, rfl, rfl, hc, hnv, hP, hI, hE, hR⟩
    by_cases hst : st = 1
    · subst hst
      obtain ⟨r1, r2, r3⟩ := hR
      obtain ⟨a1, a2, a3⟩ := r2 ac_1ne
      obtain ⟨a4, a5, a6⟩ := r3 rfl
      subst a1 a4 a5 a6
      by_cases hin : ¬ ay < 0 ∧ ¬ nI c ≤ ay
      · obtain ⟨t1, t2⟩ := ac_tgt hc hin.1 hin.2
        revert t1 t2
        generalize ay.toNatClampNeg = p
        intro t1 t2
        subst t2
        obtain ⟨u', v', hRn, hX, hY⟩ := ac_co (ch := bi) (fk := fo) (sv := sv) (C := C) (W := W) (O := O) hc t1 a2 (by omega) hnv hP hI hE a3
        obtain ⟨c', st', po', ch', fk', od', op', v0', v1', v2', p0', p1', p2', nu', R', A', S', sv', ro', ay', fo', bi', sd', nv', C', W', O', la', s0', rfl, rfl, hc', hnv', hP', hI', hE', hR'⟩ := hRn
        obtain ⟨r, u2, v2x, hR2, hX2, hY2⟩ := ih (k + 1) (B + 1) c' st' po' ch' fk' od' op' v0' v1' v2' p0' p1' p2' nu' R' A' S' sv' ro' ay' fo' bi' sd' nv' C' W' O' la' s0' (by omega) (by omega) hc' hnv' hP' hI' hE' hR'
        refine ⟨r, u2, v2x, ac_up (by omega) hR2, fun post h => ?_, fun post h => ?_⟩
        · exact br_f e (br_t rfl (ac_wPos _ (fun _ => br_f ac_1ne (hX _ (nm_r (nI_1 k) (hX2 post h)))) (fun z => absurd hin z)))
        · exact br_f e (br_t rfl (ac_yIns _ (fun _ => br_f ac_1ne (hY _ (nm_r (nI_1 k) (nm_r (nI_1 k) (hY2 post h))))) (fun z => absurd hin z)))
      · exact ⟨nI k, _, _, rel, fun post h => br_f e (br_t rfl (ac_wPos _ (fun z => absurd z hin) (fun _ => br_t rfl h))), fun post h => br_f e (br_t rfl (ac_yIns _ (fun z => absurd z hin) (fun _ => br_t rfl h)))⟩
    · exact ⟨nI k, _, _, rel, fun post h => br_f e (br_f hst h), fun post h => br_f e (br_f hst h)⟩
end
section
def ac_cv (R A S : Nat → Int32) (p : Nat) (x : Int32) : Int32 := if R p ≠ 0 ∧ ¬ x < 0 ∧ ¬ 5 ≤ x then ((((A p).toUInt32 >>> ((4 * x).toUInt32 &&& Int32.toUInt32 31)).toInt32) &&& 15) ||| (((((S p).toUInt32 >>> ((4 * x).toUInt32 &&& Int32.toUInt32 31)).toInt32) &&& 15) <<< ((4 : Int32) &&& 31)) else 0
section
variable {c : Nat} {st po ch fk od : Int32} {op v0 v1 v2 p0 p1 p2 nu sv ro R A S : Nat → Int32}
theorem ac_wCa {post : Int32 → Prop} {p : Nat} (hc : c ≤ 14) (hp : p < c) (x : Int32) (h : post (ac_cv R A S p x)) : wpX_carries post (nI c, st, po, ch, fk, od, op, v0, v1, v2, p0, p1, p2, nu, R, A, S, sv, ro) (nI p) x := by
  have hi : vp_in (nI p) 14 := vp_in_nI (by omega) (by omega)
  unfold wpX_carries
  dsimp only
  rw [nI_clamp (by omega : p < 2 ^ 31)]
  unfold ac_cv at h
  by_cases h0 : R p = 0
  · rw [if_neg (fun z => z.1 h0)] at h
    exact ac_wRe0 hc hp h0 (br_t rfl h)
  · refine ac_wRe1 hc hp h0 (br_f ac_1ne (ac_xPl x (fun b => br_f ac_1ne ⟨hi, nm_e ⟨hi, nm_e ?_⟩⟩) (fun b => br_t rfl ?_)))
    · rw [if_pos ⟨h0, b⟩] at h; exact h
    · rw [if_neg (fun z => b z.2)] at h; exact h
theorem ac_wCaO {post : Int32 → Prop} {x y : Int32} (hx : ¬ (¬ x < 0 ∧ ¬ nI c ≤ x)) (h : post 0) : wpX_carries post (nI c, st, po, ch, fk, od, op, v0, v1, v2, p0, p1, p2, nu, R, A, S, sv, ro) x y := by
  unfold wpX_carries
  exact ac_wReO hx (br_t rfl h)
end
section
variable {c : Nat} {dg ay fo bi sd : Int32} {op v0 v1 v2 p0 p1 p2 nu nv va la C W O R A S : Nat → Int32} {s0 : ac_T}
theorem ac_yCa {post : Int32 → SY → Prop} {p : Nat} (hnv : ∀ i, op i ≠ 7 → nv i = nu i) (hc : c ≤ 14) (hP : ac_Prg op v0 v1 v2 p0 p1 p2) (hI : ac_Ini c s0) (hE : (R, A, S) = ac_it (ac_F op v0 v1 p0 p1 nu c) 575 s0) (hp : p < c) (x : Int32)
    (h : ∀ C W O : Nat → Int32, post (ac_cv R A S p x) (nI c, dg, ay, fo, bi, sd, op, v0, v1, v2, p0, p1, p2, nv, C, W, O, va, la)) : wpY_carries post (nI c, dg, ay, fo, bi, sd, op, v0, v1, v2, p0, p1, p2, nv, C, W, O, va, la) (nI p) x := by
  obtain ⟨hop, hv0, hv1, hv2, hp0, hp1, hp2⟩ := hP
  unfold wpY_carries
  dsimp only
  refine ac_yCol hnv hv0 hv1 hp0 hp1 hc hI ?_
  rw [← hE]
  intro C W O hS
  have hi : vp_in (nI p) 14 := vp_in_nI (by omega) (by omega)
  have h := h C W O
  dsimp only
  rw [nI_clamp (by omega : p < 2 ^ 31)]
  refine ac_yIns _ (fun _ => br_f ac_1ne ⟨hi, ?_⟩) (fun z => absurd (ac_inC hp hc) z)
  unfold ac_cv at h
  rcases hS p hp with ⟨z1, z2, _, _⟩ | ⟨z1, z2, zW, zO, lA, lS⟩
  · have z1' : R p = 0 := z1
    rw [if_neg (fun z => z.1 z1')] at h
    exact br_t z2 h
  · have z1' : ¬ R p = 0 := by rw [show R p = 1 from z1]; decide
    refine br_f (by rw [z2]; decide) (ac_yPl x (fun b => br_f ac_1ne ⟨hi, nm_e ⟨hi, nm_e ?_⟩⟩) (fun b => br_t rfl ?_))
    · rw [if_pos ⟨z1', b⟩] at h
      obtain ⟨q, hq, rfl⟩ := ac_nPl b
      have e : (4 : Int32) * nI q = nI (4 * q) := by rw [← pk_mul]; rfl
      rw [e] at h ⊢
      rw [zW, zO]
      have g := ac_carr (x := A p) (y := S p) lA lS hq
      dsimp only
      rw [g]
      exact h
    · rw [if_neg (fun z => b z.2)] at h; exact h
theorem ac_yCaO {post : Int32 → SY → Prop} {x y : Int32} (hnv : ∀ i, op i ≠ 7 → nv i = nu i) (hc : c ≤ 14) (hP : ac_Prg op v0 v1 v2 p0 p1 p2) (hI : ac_Ini c s0) (hx : ¬ (¬ x < 0 ∧ ¬ nI c ≤ x))
    (h : ∀ C W O : Nat → Int32, post 0 (nI c, dg, ay, fo, bi, sd, op, v0, v1, v2, p0, p1, p2, nv, C, W, O, va, la)) : wpY_carries post (nI c, dg, ay, fo, bi, sd, op, v0, v1, v2, p0, p1, p2, nv, C, W, O, va, la) x y := by
  obtain ⟨hop, hv0, hv1, hv2, hp0, hp1, hp2⟩ := hP
  unfold wpY_carries
  dsimp only
  refine ac_yCol hnv hv0 hv1 hp0 hp1 hc hI ?_
  intro C W O hS
  exact ac_yIns _ (fun z => absurd z hx) (fun _ => br_t rfl (h C W O))
/-- three places in one int -/
def ac_3 (x : Int32) : Prop := ∃ j : Nat, j < 320 ∧ x = nI j ∧ j % 8 < 5 ∧ j / 8 % 8 < 5
theorem ac_3e {j : Nat} (hj : j < 2 ^ 31) : nI j &&& 7 = nI (j % 8) ∧ (nI j >>> ((3 : Int32) &&& 31)) &&& 7 = nI (j / 8 % 8) ∧ nI j >>> ((6 : Int32) &&& 31) = nI (j / 64) := by
  have h8 : j / 8 ≤ j := Nat.div_le_self _ _
  refine ⟨pk_andN (by omega) 3 (by decide), ?_, pk_shrN hj _ 6 (by decide)⟩
  rw [pk_shrN hj _ 3 (by decide)]
  exact pk_andN (by omega) 3 (by decide)
theorem ac_5 {n : Nat} (h : n < 2 ^ 31) : (5 : Int32) ≤ nI n ↔ 5 ≤ n := nI_leI (a := 5) (by omega) h
theorem ac_x3 {post : Int32 → Prop} (x : Int32) (h1 : ac_3 x → post 1) (h0 : ¬ ac_3 x → post 0) : wpX_areThreePlaces post x := by
  unfold wpX_areThreePlaces
  by_cases a : x < 0
  · refine br_t a (h0 ?_)
    intro ⟨j, hj, e, _⟩
    rw [e] at a
    exact nI_pos (by omega) a
  · obtain ⟨j, hj, rfl⟩ := nI_of a
    obtain ⟨e1, e2, e3⟩ := ac_3e hj
    rw [e1, e2, e3, ac_5 (by omega), ac_5 (by omega), ac_5 (by omega)]
    have n3 : ∀ P : Prop, (j < 320 ∧ j % 8 < 5 ∧ j / 8 % 8 < 5 → P) → ac_3 (nI j) → P := by
      intro P hP ⟨i, hi, e, i1, i2⟩
      rw [nI_eq hj (by omega)] at e
      subst e
      exact hP ⟨hi, i1, i2⟩
    refine br_f a (br_c (fun z => h0 (n3 _ (by omega))) (fun z => br_c (fun z2 => h0 (n3 _ (by omega))) (fun z2 => br_c (fun z3 => h0 (n3 _ (by omega))) (fun z3 => h1 ⟨j, by omega, rfl, by omega, by omega⟩))))
theorem ac_y3 {post : Int32 → SY → Prop} (x y : Int32) (hx0 : ¬ x < 0) (hx1 : ¬ 63 < x) (h1 : ac_3 y → wpY_append post (nI c, dg, ay, fo, bi, sd, op, v0, v1, v2, p0, p1, p2, nv, C, W, O, va, la) 1 x y 0) (h0 : ¬ ac_3 y → post (-1) (nI c, dg, ay, fo, bi, sd, op, v0, v1, v2, p0, p1, p2, nv, C, W, O, va, la)) : wpY_add post (nI c, dg, ay, fo, bi, sd, op, v0, v1, v2, p0, p1, p2, nv, C, W, O, va, la) x y := by
  unfold wpY_add wY_add_25 wY_add_26 wY_add_70 wY_add_71
  dsimp only
  by_cases a : y < 0
  · refine br_f hx0 (br_f hx1 (br_t a (br_t rfl (br_t rfl (h0 ?_)))))
    intro ⟨j, hj, e, _⟩
    rw [e] at a
    exact nI_pos (by omega) a
  · obtain ⟨j, hj, rfl⟩ := nI_of a
    obtain ⟨e1, e2, e3⟩ := ac_3e hj
    have h512 : (512 : Int32) ≤ nI j ↔ 512 ≤ j := nI_leI (a := 512) (by omega) hj
    have n3 : ∀ P : Prop, (j < 320 ∧ j % 8 < 5 ∧ j / 8 % 8 < 5 → P) → ac_3 (nI j) → P := by
      intro P hP ⟨i, hi, e, i1, i2⟩
      rw [nI_eq hj (by omega)] at e
      subst e
      exact hP ⟨hi, i1, i2⟩
    rw [e1, e2, e3]
    refine br_f hx0 (br_f hx1 (br_f a (br_c (fun z => br_t rfl (br_t rfl (h0 (n3 _ ?_)))) (fun z => br_f ac_1ne ?_))))
    · rw [h512] at z; omega
    · rw [h512] at z
      refine ac_yPl _ (fun b => br_f ac_1ne ?_) (fun b => br_t rfl (br_t rfl (h0 (n3 _ (fun w => b ⟨nI_pos (by omega), ?_⟩)))))
      · rw [ac_5 (by omega)] at b
        refine ac_yPl _ (fun b2 => br_f ac_1ne ?_) (fun b2 => br_t rfl (br_t rfl (h0 (n3 _ (fun w => b2 ⟨nI_pos (by omega), ?_⟩)))))
        · rw [ac_5 (by omega)] at b2
          refine ac_yPl _ (fun b3 => br_f ac_1ne (br_f ac_1ne (h1 ?_))) (fun b3 => br_t rfl (br_t rfl (h0 (n3 _ (fun w => b3 ⟨nI_pos (by omega), ?_⟩)))))
          · rw [ac_5 (by omega)] at b3
            exact ⟨j, by omega, rfl, by omega, by omega⟩
          · rw [ac_5 (by omega)]; omega
        · rw [ac_5 (by omega)]; omega
      · rw [ac_5 (by omega)]; omega
theorem ac_y3n {post : Int32 → SY → Prop} (x y : Int32) (hx : x < 0 ∨ 63 < x) (h0 : post (-1) (nI c, dg, ay, fo, bi, sd, op, v0, v1, v2, p0, p1, p2, nv, C, W, O, va, la)) : wpY_add post (nI c, dg, ay, fo, bi, sd, op, v0, v1, v2, p0, p1, p2, nv, C, W, O, va, la) x y := by
  unfold wpY_add wY_add_25 wY_add_26 wY_add_70 wY_add_71
  refine br_c (fun _ => br_t rfl (br_t rfl h0)) (fun a => ?_)
  exact br_t (hx.resolve_left a) (br_t rfl (br_t rfl h0))
end
theorem ac_pl1 : ∀ j, j < 5 → nI j &&& 7 = nI j ∧ (nI j >>> ((3 : Int32) &&& 31)) &&& 7 = nI 0 ∧ (nI j >>> ((6 : Int32) &&& 31)) &&& 7 = nI 0 := by decide +kernel
theorem ac_pl2 : ∀ a, a < 5 → ∀ b, b < 5 → nI a ||| (nI b <<< ((3 : Int32) &&& 31)) = nI a + 8 * nI b ∧ (nI a + 8 * nI b) &&& 7 = nI a ∧ ((nI a + 8 * nI b) >>> ((3 : Int32) &&& 31)) &&& 7 = nI b ∧ ((nI a + 8 * nI b) >>> ((6 : Int32) &&& 31)) &&& 7 = nI 0 := by decide +kernel
theorem ac_pl3 : ∀ b, b < 5 → nI b <<< ((3 : Int32) &&& 31) = 8 * nI b ∧ (8 * nI b) &&& 7 = nI 0 ∧ ((8 * nI b) >>> ((3 : Int32) &&& 31)) &&& 7 = nI b ∧ ((8 * nI b) >>> ((6 : Int32) &&& 31)) &&& 7 = nI 0 := by decide +kernel
theorem ac_vl1 : ∀ a, a < 4 → nI a <<< ((2 : Int32) &&& 31) = 4 * nI a := by decide +kernel
theorem ac_vl2 : ∀ a, a < 4 → ∀ b, b < 4 → nI a ||| (nI b <<< ((2 : Int32) &&& 31)) = nI a + 4 * nI b := by decide +kernel
end
section
def i_Rel (k : Nat) (u : SX) (v : SY) : Prop := ac_Rel (16 * k) u v
theorem i_up {k : Nat} {u : SX} {v : SY} (h : i_Rel k u v) : i_Rel (k + 4) u v := ac_up (by omega) h
theorem i_vc0 : wpX_init (fun u => wpY_init (fun v => i_Rel 0 u v)) := by
  refine ⟨0, 0, 0, 0, 0, 0, (fun _ => 0), (fun _ => 0), (fun _ => 0), (fun _ => 0), (fun _ => 0), (fun _ => 0), (fun _ => 0), (fun _ => 0), (fun _ => 0), (fun _ => 0), (fun _ => 0), (fun _ => 0), (fun _ => 0), 0, 0, 0, 0, (fun _ => 0), (fun _ => 0), (fun _ => 0), (fun _ => 0), (fun _ => 0), ((fun _ => 0), (fun _ => 0), (fun _ => 0)), rfl, rfl, by omega, fun _ _ => rfl, ⟨ac_In0 (by omega), ac_In0 (by omega), ac_In0 (by omega), ac_In0 (by omega), ac_In0 (by omega), ac_In0 (by omega), ac_In0 (by omega)⟩, ⟨fun i _ => by rw [if_neg (by omega)], fun z => absurd z (by omega)⟩, ?_, fun _ => rfl, fun z => absurd rfl z, fun z => absurd z (by decide)⟩
  rw [ac_itF0]
theorem i_vc_set {k : Nat} {u : SX} {v : SY} (I : i_Rel k u v) (hk : k + 4 ≤ 2048) (v1 : Int32) (v2 : Int32) (v3 : Int32) : wpX_set (fun r u' => wpY_set (fun r' v' => r' = r ∧ i_Rel (k + 4) u' v') v v1 v2 v3) u v1 v2 v3 := by
  have I' : ac_Rel (16 * k) u v := I
  have Iu := i_up I
  obtain ⟨c, st, po, ch, fk, od, op, x0, x1, x2, y0, y1, y2, nu, R, A, S, sv, ro, ay, fo, bi, sd, nv, C, W, O, la, s0, rfl, rfl, hc, hnv, hP, hI, hE, hR⟩ := I
  unfold wpX_set
  dsimp only
  refine ac_xVa v1 (fun a => br_f ac_1ne (ac_xPl v2 (fun b => br_f ac_1ne ?_) (fun b => br_t rfl ?_))) (fun a => br_t rfl ?_)
  · obtain ⟨j, hj, rfl⟩ := ac_nPl b
    obtain ⟨t1, t2, t3⟩ := ac_pl1 j hj
    obtain ⟨r, ⟨b1, b2, b3, b4, b5, b6, b7, b8, b9, b10, b11, b12, b13, b14, b15, b16, b17, b18, b19⟩, ⟨d1, d2, d3, d4, d5, d6, d7, d8, d9, d10, d11, d12, d13, d14, d15, d16, d17, d18, d19⟩, hRn, hX, hY⟩ := ac_app I' 0 v1 (nI j) v3 v3 (fun _ => rfl) ⟨0, by omega, rfl⟩ ⟨j, hj, t1⟩ ⟨0, by omega, t2⟩ ⟨0, by omega, t3⟩
    refine hX _ ?_
    unfold wpY_set
    dsimp only
    exact ac_yVa _ (fun _ => br_f ac_1ne (ac_yPl _ (fun _ => br_f ac_1ne (hY _ ⟨rfl, ac_up (by omega) hRn⟩)) (fun z => absurd b z))) (fun z => absurd a z)
  · unfold wpY_set
    dsimp only
    exact ac_yVa _ (fun _ => br_f ac_1ne (ac_yPl _ (fun z => absurd z b) (fun _ => br_t rfl ⟨rfl, Iu⟩))) (fun z => absurd a z)
  · unfold wpY_set
    dsimp only
    exact ac_yVa _ (fun z => absurd z a) (fun _ => br_t rfl ⟨rfl, Iu⟩)
theorem i_vc_add {k : Nat} {u : SX} {v : SY} (I : i_Rel k u v) (hk : k + 4 ≤ 2048) (v1 : Int32) (v2 : Int32) : wpX_add (fun r u' => wpY_add (fun r' v' => r' = r ∧ i_Rel (k + 4) u' v') v v1 v2) u v1 v2 := by
  have I' : ac_Rel (16 * k) u v := I
  have Iu := i_up I
  obtain ⟨c, st, po, ch, fk, od, op, x0, x1, x2, y0, y1, y2, nu, R, A, S, sv, ro, ay, fo, bi, sd, nv, C, W, O, la, s0, rfl, rfl, hc, hnv, hP, hI, hE, hR⟩ := I
  unfold wpX_add
  dsimp only
  refine br_c (fun a => ?_) (fun a => br_c (fun b => ?_) (fun b => ac_x3 v2 (fun d => br_f ac_1ne ?_) (fun d => br_t rfl ?_)))
  · exact ac_y3n _ _ (Or.inl a) ⟨rfl, Iu⟩
  · exact ac_y3n _ _ (Or.inr b) ⟨rfl, Iu⟩
  · have hd3 := d
    obtain ⟨j, hj, rfl, j1, j2⟩ := d
    obtain ⟨t1, t2, t3⟩ := ac_3e (j := j) (by omega)
    have t4 : (nI j >>> ((6 : Int32) &&& 31)) &&& 7 = nI (j / 64) := by
      rw [t3, pk_andN (by omega) 3 (by decide)]
      exact congrArg nI (by omega)
    obtain ⟨r, ⟨b1, b2, b3, b4, b5, b6, b7, b8, b9, b10, b11, b12, b13, b14, b15, b16, b17, b18, b19⟩, ⟨d1, d2, d3, d4, d5, d6, d7, d8, d9, d10, d11, d12, d13, d14, d15, d16, d17, d18, d19⟩, hRn, hX, hY⟩ := ac_app I' 1 v1 (nI j) 0 0 (fun _ => rfl) ⟨1, by omega, rfl⟩ ⟨_, j1, t1⟩ ⟨_, j2, t2⟩ ⟨_, by omega, t4⟩
    refine hX _ ?_
    exact ac_y3 _ _ a b (fun _ => hY _ ⟨rfl, ac_up (by omega) hRn⟩) (fun z => absurd hd3 z)
  · exact ac_y3 _ _ a b (fun z => absurd z d) (fun _ => ⟨rfl, Iu⟩)
theorem i_vc_move {k : Nat} {u : SX} {v : SY} (I : i_Rel k u v) (hk : k + 4 ≤ 2048) (v1 : Int32) (v2 : Int32) : wpX_move (fun r u' => wpY_move (fun r' v' => r' = r ∧ i_Rel (k + 4) u' v') v v1 v2) u v1 v2 := by
  have I' : ac_Rel (16 * k) u v := I
  have Iu := i_up I
  obtain ⟨c, st, po, ch, fk, od, op, x0, x1, x2, y0, y1, y2, nu, R, A, S, sv, ro, ay, fo, bi, sd, nv, C, W, O, la, s0, rfl, rfl, hc, hnv, hP, hI, hE, hR⟩ := I
  unfold wpX_move
  dsimp only
  refine ac_xPl v1 (fun a => br_f ac_1ne (ac_xPl v2 (fun b => br_f ac_1ne ?_) (fun b => br_t rfl ?_))) (fun a => br_t rfl ?_)
  · obtain ⟨i, hi, rfl⟩ := ac_nPl a
    obtain ⟨j, hj, rfl⟩ := ac_nPl b
    obtain ⟨t0, t1, t2, t3⟩ := ac_pl2 i hi j hj
    obtain ⟨r, ⟨b1, b2, b3, b4, b5, b6, b7, b8, b9, b10, b11, b12, b13, b14, b15, b16, b17, b18, b19⟩, ⟨d1, d2, d3, d4, d5, d6, d7, d8, d9, d10, d11, d12, d13, d14, d15, d16, d17, d18, d19⟩, hRn, hX, hY⟩ := ac_app I' 2 0 (nI i + 8 * nI j) 0 0 (fun _ => rfl) ⟨2, by omega, rfl⟩ ⟨i, hi, t1⟩ ⟨j, hj, t2⟩ ⟨0, by omega, t3⟩
    refine hX _ ?_
    unfold wpY_move
    dsimp only
    exact ac_yPl _ (fun _ => br_f ac_1ne (ac_yPl _ (fun _ => br_f ac_1ne (by rw [t0]; exact hY _ ⟨rfl, ac_up (by omega) hRn⟩)) (fun z => absurd b z))) (fun z => absurd a z)
  · unfold wpY_move
    dsimp only
    exact ac_yPl _ (fun _ => br_f ac_1ne (ac_yPl _ (fun z => absurd z b) (fun _ => br_t rfl ⟨rfl, Iu⟩))) (fun z => absurd a z)
  · unfold wpY_move
    dsimp only
    exact ac_yPl _ (fun z => absurd z a) (fun _ => br_t rfl ⟨rfl, Iu⟩)
theorem i_vc_out {k : Nat} {u : SX} {v : SY} (I : i_Rel k u v) (hk : k + 4 ≤ 2048) (v1 : Int32) (v2 : Int32) : wpX_out (fun r u' => wpY_out (fun r' v' => r' = r ∧ i_Rel (k + 4) u' v') v v1 v2) u v1 v2 := by
  have I' : ac_Rel (16 * k) u v := I
  have Iu := i_up I
  obtain ⟨c, st, po, ch, fk, od, op, x0, x1, x2, y0, y1, y2, nu, R, A, S, sv, ro, ay, fo, bi, sd, nv, C, W, O, la, s0, rfl, rfl, hc, hnv, hP, hI, hE, hR⟩ := I
  unfold wpX_out
  dsimp only
  refine ac_xVa v1 (fun a => br_f ac_1ne (ac_xPl v2 (fun b => br_f ac_1ne ?_) (fun b => br_t rfl ?_))) (fun a => br_t rfl ?_)
  · obtain ⟨i, hi, rfl⟩ := ac_nVa a
    obtain ⟨j, hj, rfl⟩ := ac_nPl b
    have t4 := ac_vl1 i hi
    obtain ⟨t0, t1, t2, t3⟩ := ac_pl3 j hj
    obtain ⟨r, ⟨b1, b2, b3, b4, b5, b6, b7, b8, b9, b10, b11, b12, b13, b14, b15, b16, b17, b18, b19⟩, ⟨d1, d2, d3, d4, d5, d6, d7, d8, d9, d10, d11, d12, d13, d14, d15, d16, d17, d18, d19⟩, hRn, hX, hY⟩ := ac_app I' 3 (4 * nI i) (8 * nI j) 0 0 (fun _ => rfl) ⟨3, by omega, rfl⟩ ⟨0, by omega, t1⟩ ⟨j, hj, t2⟩ ⟨0, by omega, t3⟩
    refine hX _ ?_
    unfold wpY_out
    dsimp only
    exact ac_yVa _ (fun _ => br_f ac_1ne (ac_yPl _ (fun _ => br_f ac_1ne (by rw [t0, t4]; exact hY _ ⟨rfl, ac_up (by omega) hRn⟩)) (fun z => absurd b z))) (fun z => absurd a z)
  · unfold wpY_out
    dsimp only
    exact ac_yVa _ (fun _ => br_f ac_1ne (ac_yPl _ (fun z => absurd z b) (fun _ => br_t rfl ⟨rfl, Iu⟩))) (fun z => absurd a z)
  · unfold wpY_out
    dsimp only
    exact ac_yVa _ (fun z => absurd z a) (fun _ => br_t rfl ⟨rfl, Iu⟩)
theorem i_vc_same {k : Nat} {u : SX} {v : SY} (I : i_Rel k u v) (hk : k + 4 ≤ 2048) (v1 : Int32) (v2 : Int32) : wpX_same (fun r u' => wpY_same (fun r' v' => r' = r ∧ i_Rel (k + 4) u' v') v v1 v2) u v1 v2 := by
  have I' : ac_Rel (16 * k) u v := I
  have Iu := i_up I
  obtain ⟨c, st, po, ch, fk, od, op, x0, x1, x2, y0, y1, y2, nu, R, A, S, sv, ro, ay, fo, bi, sd, nv, C, W, O, la, s0, rfl, rfl, hc, hnv, hP, hI, hE, hR⟩ := I
  unfold wpX_same
  dsimp only
  refine ac_xVa v1 (fun a => br_f ac_1ne (ac_xVa v2 (fun b => br_f ac_1ne ?_) (fun b => br_t rfl ?_))) (fun a => br_t rfl ?_)
  · obtain ⟨i, hi, rfl⟩ := ac_nVa a
    obtain ⟨j, hj, rfl⟩ := ac_nVa b
    have t0 := ac_vl2 i hi j hj
    obtain ⟨r, ⟨b1, b2, b3, b4, b5, b6, b7, b8, b9, b10, b11, b12, b13, b14, b15, b16, b17, b18, b19⟩, ⟨d1, d2, d3, d4, d5, d6, d7, d8, d9, d10, d11, d12, d13, d14, d15, d16, d17, d18, d19⟩, hRn, hX, hY⟩ := ac_app I' 4 (nI i + 4 * nI j) 0 0 0 (fun _ => rfl) ⟨4, by omega, rfl⟩ ⟨0, by omega, by decide⟩ ⟨0, by omega, by decide⟩ ⟨0, by omega, by decide⟩
    refine hX _ ?_
    unfold wpY_same
    dsimp only
    exact ac_yVa _ (fun _ => br_f ac_1ne (ac_yVa _ (fun _ => br_f ac_1ne (by rw [t0]; exact hY _ ⟨rfl, ac_up (by omega) hRn⟩)) (fun z => absurd b z))) (fun z => absurd a z)
  · unfold wpY_same
    dsimp only
    exact ac_yVa _ (fun _ => br_f ac_1ne (ac_yVa _ (fun z => absurd z b) (fun _ => br_t rfl ⟨rfl, Iu⟩))) (fun z => absurd a z)
  · unfold wpY_same
    dsimp only
    exact ac_yVa _ (fun z => absurd z a) (fun _ => br_t rfl ⟨rfl, Iu⟩)
theorem i_vc_flow {k : Nat} {u : SX} {v : SY} (I : i_Rel k u v) (hk : k + 4 ≤ 2048) (v1 : Int32) (v2 : Int32) : wpX_flow (fun r u' => wpY_flow (fun r' v' => r' = r ∧ i_Rel (k + 4) u' v') v v1 v2) u v1 v2 := by
  have I' : ac_Rel (16 * k) u v := I
  have Iu := i_up I
  obtain ⟨c, st, po, ch, fk, od, op, x0, x1, x2, y0, y1, y2, nu, R, A, S, sv, ro, ay, fo, bi, sd, nv, C, W, O, la, s0, rfl, rfl, hc, hnv, hP, hI, hE, hR⟩ := I
  unfold wpX_flow
  dsimp only
  by_cases a : v1 < 0
  · exact br_t a (br_t a ⟨rfl, Iu⟩)
  by_cases b : 2 < v1
  · exact br_f a (br_t b (br_f a (br_t b ⟨rfl, Iu⟩)))
  obtain ⟨j, hj, rfl⟩ := nI_of2 (M := 2) (n := 2) (by decide) a (Int32.not_lt.mp b)
  have hj2 : j = 0 ∨ j = 1 ∨ j = 2 := by omega
  rcases hj2 with rfl | rfl | rfl
  · have e : (5 : Int32) + nI 0 = 5 := by decide
    obtain ⟨r, ⟨b1, b2, b3, b4, b5, b6, b7, b8, b9, b10, b11, b12, b13, b14, b15, b16, b17, b18, b19⟩, ⟨d1, d2, d3, d4, d5, d6, d7, d8, d9, d10, d11, d12, d13, d14, d15, d16, d17, d18, d19⟩, hRn, hX, hY⟩ := ac_app I' 5 0 0 v2 v2 (fun z => rfl) ⟨5, by omega, rfl⟩ ⟨0, by omega, by decide⟩ ⟨0, by omega, by decide⟩ ⟨0, by omega, by decide⟩
    refine br_f a (br_f b (br_t (by decide) (hX _ ?_)))
    unfold wpY_flow
    dsimp only
    rw [e]
    exact br_f a (br_f b (hY _ ⟨rfl, ac_up (by omega) hRn⟩))
  · have e : (5 : Int32) + nI 1 = 6 := by decide
    obtain ⟨r, ⟨b1, b2, b3, b4, b5, b6, b7, b8, b9, b10, b11, b12, b13, b14, b15, b16, b17, b18, b19⟩, ⟨d1, d2, d3, d4, d5, d6, d7, d8, d9, d10, d11, d12, d13, d14, d15, d16, d17, d18, d19⟩, hRn, hX, hY⟩ := ac_app I' 6 0 0 v2 v2 (fun z => rfl) ⟨6, by omega, rfl⟩ ⟨0, by omega, by decide⟩ ⟨0, by omega, by decide⟩ ⟨0, by omega, by decide⟩
    refine br_f a (br_f b (br_f (by decide) (br_t (by decide) (hX _ ?_))))
    unfold wpY_flow
    dsimp only
    rw [e]
    exact br_f a (br_f b (hY _ ⟨rfl, ac_up (by omega) hRn⟩))
  · have e : (5 : Int32) + nI 2 = 7 := by decide
    obtain ⟨r, ⟨b1, b2, b3, b4, b5, b6, b7, b8, b9, b10, b11, b12, b13, b14, b15, b16, b17, b18, b19⟩, ⟨d1, d2, d3, d4, d5, d6, d7, d8, d9, d10, d11, d12, d13, d14, d15, d16, d17, d18, d19⟩, hRn, hX, hY⟩ := ac_app I' 7 0 0 0 v2 (fun z => absurd rfl z) ⟨7, by omega, rfl⟩ ⟨0, by omega, by decide⟩ ⟨0, by omega, by decide⟩ ⟨0, by omega, by decide⟩
    refine br_f a (br_f b (br_f (by decide) (br_f (by decide) (br_t (by decide) (hX _ ?_)))))
    unfold wpY_flow
    dsimp only
    rw [e]
    exact br_f a (br_f b (hY _ ⟨rfl, ac_up (by omega) hRn⟩))
theorem i_vc_drop {k : Nat} {u : SX} {v : SY} (I : i_Rel k u v) (hk : k + 4 ≤ 2048) : wpX_drop (fun r u' => wpY_drop (fun r' v' => r' = r ∧ i_Rel (k + 4) u' v') v) u := by
  obtain ⟨r, u', v', hRn, hX, hY⟩ := ac_drp (B := 16 * k) I
  exact hX _ (hY _ ⟨rfl, ac_up (by omega) hRn⟩)
theorem i_vc_length {k : Nat} {u : SX} {v : SY} (I : i_Rel k u v) (hk : k + 4 ≤ 2048) : wpX_length (fun r => wpY_length (fun r' => r' = r ∧ i_Rel (k + 4) u v) v) u := by
  have I' : ac_Rel (16 * k) u v := I
  have Iu := i_up I
  obtain ⟨c, st, po, ch, fk, od, op, x0, x1, x2, y0, y1, y2, nu, R, A, S, sv, ro, ay, fo, bi, sd, nv, C, W, O, la, s0, rfl, rfl, hc, hnv, hP, hI, hE, hR⟩ := I
  exact ⟨rfl, Iu⟩
theorem i_vc_sound {k : Nat} {u : SX} {v : SY} (I : i_Rel k u v) (hk : k + 4 ≤ 2048) : wpX_sound (fun r => wpY_sound (fun r' v' => r' = r ∧ i_Rel (k + 4) u v') v) u := by
  have I' : ac_Rel (16 * k) u v := I
  have Iu := i_up I
  obtain ⟨c, st, po, ch, fk, od, op, x0, x1, x2, y0, y1, y2, nu, R, A, S, sv, ro, ay, fo, bi, sd, nv, C, W, O, la, s0, rfl, rfl, hc, hnv, hP, hI, hE, hR⟩ := I
  have mk : ∀ C W O : Nat → Int32, i_Rel (k + 4) (nI c, st, po, ch, fk, nI od, op, x0, x1, x2, y0, y1, y2, nu, R, A, S, sv, ro) (nI c, st, ay, fo, bi, sd, op, x0, x1, x2, y0, y1, y2, nv, C, W, O, sv, la) := fun C W O => ac_up (B := 16 * k) (by omega) ⟨c, st, po, ch, fk, od, op, x0, x1, x2, y0, y1, y2, nu, R, A, S, sv, ro, ay, fo, bi, sd, nv, C, W, O, la, s0, rfl, rfl, hc, hnv, hP, hI, hE, hR⟩
  obtain ⟨hop, hv0, hv1, hv2, hp0, hp1, hp2⟩ := id hP
  refine ⟨c + 1, ac_wSo hc hv1 hp1 hv2 hp2 c 0 (c + 1) (by omega) (by omega) ?_⟩
  refine ⟨c + 1, ac_ySo hnv hc hP hI hE c 0 (c + 1) 0 C W O (by omega) (by omega) (fun C W O => ⟨?_, mk C W O⟩)⟩
  rw [decide_eq_true (rfl : (0 : Int32) = 0), Bool.true_and]
theorem i_vc_faults {k : Nat} {u : SX} {v : SY} (I : i_Rel k u v) (hk : k + 4 ≤ 2048) (v1 : Int32) : wpX_faults (fun r => wpY_faults (fun r' v' => r' = r ∧ i_Rel (k + 4) u v') v v1) u v1 := by
  have I' : ac_Rel (16 * k) u v := I
  have Iu := i_up I
  obtain ⟨c, st, po, ch, fk, od, op, x0, x1, x2, y0, y1, y2, nu, R, A, S, sv, ro, ay, fo, bi, sd, nv, C, W, O, la, s0, rfl, rfl, hc, hnv, hP, hI, hE, hR⟩ := I
  have mk : ∀ C W O : Nat → Int32, i_Rel (k + 4) (nI c, st, po, ch, fk, nI od, op, x0, x1, x2, y0, y1, y2, nu, R, A, S, sv, ro) (nI c, st, ay, fo, bi, sd, op, x0, x1, x2, y0, y1, y2, nv, C, W, O, sv, la) := fun C W O => ac_up (B := 16 * k) (by omega) ⟨c, st, po, ch, fk, od, op, x0, x1, x2, y0, y1, y2, nu, R, A, S, sv, ro, ay, fo, bi, sd, nv, C, W, O, la, s0, rfl, rfl, hc, hnv, hP, hI, hE, hR⟩
  obtain ⟨hop, hv0, hv1, hv2, hp0, hp1, hp2⟩ := id hP
  by_cases hin : ¬ v1 < 0 ∧ ¬ nI c ≤ v1
  · obtain ⟨t1, t2⟩ := ac_tgt hc hin.1 hin.2
    revert t1 t2
    generalize v1.toNatClampNeg = p
    intro t1 t2
    subst t2
    exact ac_wFa hc t1 hv1 hp1 hv2 hp2 (ac_yFa hnv hc hP hI hE t1 (fun C W O => ⟨rfl, mk C W O⟩))
  · exact ac_wFaO hin (ac_yFaO hnv hc hP hI hin (fun C W O => ⟨rfl, mk C W O⟩))
theorem i_vc_reached {k : Nat} {u : SX} {v : SY} (I : i_Rel k u v) (hk : k + 4 ≤ 2048) (v1 : Int32) : wpX_reached (fun r => wpY_reached (fun r' v' => r' = r ∧ i_Rel (k + 4) u v') v v1) u v1 := by
  have I' : ac_Rel (16 * k) u v := I
  have Iu := i_up I
  obtain ⟨c, st, po, ch, fk, od, op, x0, x1, x2, y0, y1, y2, nu, R, A, S, sv, ro, ay, fo, bi, sd, nv, C, W, O, la, s0, rfl, rfl, hc, hnv, hP, hI, hE, hR⟩ := I
  have mk : ∀ C W O : Nat → Int32, i_Rel (k + 4) (nI c, st, po, ch, fk, nI od, op, x0, x1, x2, y0, y1, y2, nu, R, A, S, sv, ro) (nI c, st, ay, fo, bi, sd, op, x0, x1, x2, y0, y1, y2, nv, C, W, O, sv, la) := fun C W O => ac_up (B := 16 * k) (by omega) ⟨c, st, po, ch, fk, od, op, x0, x1, x2, y0, y1, y2, nu, R, A, S, sv, ro, ay, fo, bi, sd, nv, C, W, O, la, s0, rfl, rfl, hc, hnv, hP, hI, hE, hR⟩
  by_cases hin : ¬ v1 < 0 ∧ ¬ nI c ≤ v1
  · obtain ⟨t1, t2⟩ := ac_tgt hc hin.1 hin.2
    revert t1 t2
    generalize v1.toNatClampNeg = p
    intro t1 t2
    subst t2
    by_cases h0 : R p = 0
    · exact ac_wRe0 hc t1 h0 (ac_yRe hnv hc hP hI hE t1 (fun C W O => ⟨if_pos h0, mk C W O⟩))
    · exact ac_wRe1 hc t1 h0 (ac_yRe hnv hc hP hI hE t1 (fun C W O => ⟨if_neg h0, mk C W O⟩))
  · exact ac_wReO hin (ac_yReO hnv hc hP hI hin (fun C W O => ⟨rfl, mk C W O⟩))
theorem i_vc_carries {k : Nat} {u : SX} {v : SY} (I : i_Rel k u v) (hk : k + 4 ≤ 2048) (v1 : Int32) (v2 : Int32) : wpX_carries (fun r => wpY_carries (fun r' v' => r' = r ∧ i_Rel (k + 4) u v') v v1 v2) u v1 v2 := by
  have I' : ac_Rel (16 * k) u v := I
  have Iu := i_up I
  obtain ⟨c, st, po, ch, fk, od, op, x0, x1, x2, y0, y1, y2, nu, R, A, S, sv, ro, ay, fo, bi, sd, nv, C, W, O, la, s0, rfl, rfl, hc, hnv, hP, hI, hE, hR⟩ := I
  have mk : ∀ C W O : Nat → Int32, i_Rel (k + 4) (nI c, st, po, ch, fk, nI od, op, x0, x1, x2, y0, y1, y2, nu, R, A, S, sv, ro) (nI c, st, ay, fo, bi, sd, op, x0, x1, x2, y0, y1, y2, nv, C, W, O, sv, la) := fun C W O => ac_up (B := 16 * k) (by omega) ⟨c, st, po, ch, fk, od, op, x0, x1, x2, y0, y1, y2, nu, R, A, S, sv, ro, ay, fo, bi, sd, nv, C, W, O, la, s0, rfl, rfl, hc, hnv, hP, hI, hE, hR⟩
  by_cases hin : ¬ v1 < 0 ∧ ¬ nI c ≤ v1
  · obtain ⟨t1, t2⟩ := ac_tgt hc hin.1 hin.2
    revert t1 t2
    generalize v1.toNatClampNeg = p
    intro t1 t2
    subst t2
    exact ac_wCa hc t1 v2 (ac_yCa hnv hc hP hI hE t1 v2 (fun C W O => ⟨rfl, mk C W O⟩))
  · exact ac_wCaO hin (ac_yCaO hnv hc hP hI hin (fun C W O => ⟨rfl, mk C W O⟩))
theorem i_vc_start {k : Nat} {u : SX} {v : SY} (I : i_Rel k u v) (hk : k + 4 ≤ 2048) (v1 : Int32) : wpX_start (fun r u' => wpY_start (fun r' v' => r' = r ∧ i_Rel (k + 4) u' v') v v1) u v1 := by
  have I' : ac_Rel (16 * k) u v := I
  have Iu := i_up I
  obtain ⟨c, st, po, ch, fk, od, op, x0, x1, x2, y0, y1, y2, nu, R, A, S, sv, ro, ay, fo, bi, sd, nv, C, W, O, la, s0, rfl, rfl, hc, hnv, hP, hI, hE, hR⟩ := I
  have mk : ∀ C W O : Nat → Int32, i_Rel (k + 4) (nI c, st, po, ch, fk, nI od, op, x0, x1, x2, y0, y1, y2, nu, R, A, S, sv, ro) (nI c, st, ay, fo, bi, sd, op, x0, x1, x2, y0, y1, y2, nv, C, W, O, sv, la) := fun C W O => ac_up (B := 16 * k) (by omega) ⟨c, st, po, ch, fk, od, op, x0, x1, x2, y0, y1, y2, nu, R, A, S, sv, ro, ay, fo, bi, sd, nv, C, W, O, la, s0, rfl, rfl, hc, hnv, hP, hI, hE, hR⟩
  obtain ⟨hop, hv0, hv1, hv2, hp0, hp1, hp2⟩ := id hP
  unfold wpX_start
  dsimp only
  refine ⟨c + 1, ac_wSo hc hv1 hp1 hv2 hp2 c 0 (c + 1) (by omega) (by omega) ?_⟩
  have hY : ∀ post : Int32 → SY → Prop, (∀ C W O : Nat → Int32, post (ac_bI (decide (0 < c) && ac_so (ac_fv op x1 x2 y1 y2 nu R A c) c 0)) (nI c, st, ay, fo, bi, sd, op, x0, x1, x2, y0, y1, y2, nv, C, W, O, sv, la)) → wpY_sound post (nI c, st, ay, fo, bi, sd, op, x0, x1, x2, y0, y1, y2, nv, C, W, O, sv, la) := by
    intro post h
    refine ⟨c + 1, ac_ySo hnv hc hP hI hE c 0 (c + 1) 0 C W O (by omega) (by omega) ?_⟩
    rw [decide_eq_true (rfl : (0 : Int32) = 0), Bool.true_and]
    exact h
  revert hY
  generalize (decide (0 < c) && ac_so (ac_fv op x1 x2 y1 y2 nu R A c) c 0) = f
  intro hY
  cases f with
  | false =>
    refine br_t rfl ?_
    unfold wpY_start
    dsimp only
    exact hY _ (fun C W O => br_t rfl ⟨rfl, mk C W O⟩)
  | true =>
    have n0 : ¬ (4 : Int32) ≤ 0 := by decide
    have n1 : ¬ (4 : Int32) ≤ 1 := by decide
    have n2 : ¬ (4 : Int32) ≤ 2 := by decide
    have n3 : ¬ (4 : Int32) ≤ 3 := by decide
    have n4 : (4 : Int32) ≤ 4 := by decide
    have i0 : vp_in (0 : Int32) 4 := vp_in_iff.mpr (by decide)
    have i1 : vp_in (1 : Int32) 4 := vp_in_iff.mpr (by decide)
    have i2 : vp_in (2 : Int32) 4 := vp_in_iff.mpr (by decide)
    have i3 : vp_in (3 : Int32) 4 := vp_in_iff.mpr (by decide)
    have a1 : (0 : Int32) + 1 = 1 := by decide
    have a2 : (1 : Int32) + 1 = 2 := by decide
    have a3 : (2 : Int32) + 1 = 3 := by decide
    have a4 : (3 : Int32) + 1 = 4 := by decide
    refine br_f ac_1ne ⟨5, br_f n0 ⟨i0, nm_e (nm_r a1 (br_f n1 ⟨i1, nm_e (nm_r a2 (br_f n2 ⟨i2, nm_e (nm_r a3 (br_f n3 ⟨i3, nm_e (nm_r a4 (br_t n4 ?_))⟩))⟩))⟩))⟩⟩
    unfold wpY_start
    dsimp only
    refine hY _ (fun C W O => br_f ac_1ne ⟨5, br_f n0 ⟨i0, nm_e (nm_r a1 (br_f n1 ⟨i1, nm_e (nm_r a2 (br_f n2 ⟨i2, nm_e (nm_r a3 (br_f n3 ⟨i3, nm_e (nm_r a4 (br_t n4 ⟨rfl, ?_⟩))⟩))⟩))⟩))⟩⟩)
    exact ⟨c, 1, 0, v1, 0, 0, op, x0, x1, x2, y0, y1, y2, nu, R, A, S, _, ro, 0, 0, v1, 0, nv, C, W, O, la, s0, rfl, rfl, hc, hnv, hP, hI, hE, fun _ => rfl, fun _ => ⟨rfl, by omega, fun j _ z => absurd z (by omega)⟩, fun _ => ⟨rfl, rfl, rfl⟩⟩
theorem i_vc_step {k : Nat} {u : SX} {v : SY} (I : i_Rel k u v) (hk : k + 4 ≤ 2048) (v1 : Int32) : wpX_step (fun r u' => wpY_step (fun r' v' => r' = r ∧ i_Rel (k + 4) u' v') v v1) u v1 := by
  have I' : ac_Rel (16 * k) u v := I
  have Iu := i_up I
  obtain ⟨c, st, po, ch, fk, od, op, x0, x1, x2, y0, y1, y2, nu, R, A, S, sv, ro, ay, fo, bi, sd, nv, C, W, O, la, s0, rfl, rfl, hc, hnv, hP, hI, hE, hR⟩ := I
  unfold wpX_step wpY_step
  dsimp only
  by_cases a : v1 ≤ 64
  · by_cases b : 0 ≤ v1
    · obtain ⟨l, hl, rfl⟩ := nI_of2 (M := 64) (n := 64) (by decide) (Int32.not_lt.mpr b) a
      obtain ⟨r, u', v', hRn, hX, hY⟩ := ac_stp l (by omega) l 0 (16 * k) c st po ch fk od op x0 x1 x2 y0 y1 y2 nu R A S sv ro ay fo bi sd nv C W O la s0 (by omega) (by omega) hc hnv hP hI hE hR
      exact br_t a ⟨l + 1, hX _ (br_t b (br_t a ⟨l + 1, hY _ ⟨rfl, ac_up (by omega) hRn⟩⟩))⟩
    · have b2 : v1 ≤ 0 := Int32.le_of_lt (Int32.not_le.mp b)
      exact br_t a ⟨1, br_t b2 (br_f b ⟨1, br_t (by decide) ⟨rfl, Iu⟩⟩)⟩
  · have b : 0 ≤ v1 := Int32.le_of_lt (Int32.lt_of_le_of_lt (by decide) (Int32.not_le.mp a))
    obtain ⟨r, u', v', hRn, hX, hY⟩ := ac_stp 64 (by omega) 64 0 (16 * k) c st po ch fk od op x0 x1 x2 y0 y1 y2 nu R A S sv ro ay fo bi sd nv C W O la s0 (by omega) (by omega) hc hnv hP hI hE hR
    exact br_f a ⟨65, hX _ (br_t b (br_f a ⟨65, hY _ ⟨rfl, ac_up (by omega) hRn⟩⟩))⟩
theorem i_vc_status {k : Nat} {u : SX} {v : SY} (I : i_Rel k u v) (hk : k + 4 ≤ 2048) : wpX_status (fun r => wpY_status (fun r' => r' = r ∧ i_Rel (k + 4) u v) v) u := by
  have I' : ac_Rel (16 * k) u v := I
  have Iu := i_up I
  obtain ⟨c, st, po, ch, fk, od, op, x0, x1, x2, y0, y1, y2, nu, R, A, S, sv, ro, ay, fo, bi, sd, nv, C, W, O, la, s0, rfl, rfl, hc, hnv, hP, hI, hE, hR⟩ := I
  exact ⟨rfl, Iu⟩
theorem i_vc_outs {k : Nat} {u : SX} {v : SY} (I : i_Rel k u v) (hk : k + 4 ≤ 2048) : wpX_outs (fun r => wpY_outs (fun r' => r' = r ∧ i_Rel (k + 4) u v) v) u := by
  have I' : ac_Rel (16 * k) u v := I
  have Iu := i_up I
  obtain ⟨c, st, po, ch, fk, od, op, x0, x1, x2, y0, y1, y2, nu, R, A, S, sv, ro, ay, fo, bi, sd, nv, C, W, O, la, s0, rfl, rfl, hc, hnv, hP, hI, hE, hR⟩ := I
  obtain ⟨r1, r2, r3⟩ := hR
  refine br_c (fun z => ⟨?_, Iu⟩) (fun z => ⟨(r2 z).1, Iu⟩)
  rw [r1 z]; rfl
theorem i_vc_lastOut {k : Nat} {u : SX} {v : SY} (I : i_Rel k u v) (hk : k + 4 ≤ 2048) (v1 : Int32) : wpX_lastOut (fun r => wpY_lastOut (fun r' => r' = r ∧ i_Rel (k + 4) u v) v v1) u v1 := by
  have I' : ac_Rel (16 * k) u v := I
  have Iu := i_up I
  obtain ⟨c, st, po, ch, fk, od, op, x0, x1, x2, y0, y1, y2, nu, R, A, S, sv, ro, ay, fo, bi, sd, nv, C, W, O, la, s0, rfl, rfl, hc, hnv, hP, hI, hE, hR⟩ := I
  obtain ⟨r1, r2, r3⟩ := hR
  by_cases a : v1 < 0
  · exact br_t a (br_c (fun _ => ⟨rfl, Iu⟩) (fun _ => br_t a ⟨rfl, Iu⟩))
  obtain ⟨j, hj, rfl⟩ := nI_of a
  by_cases b : j < 8
  · have b1 : ¬ (8 : Int32) ≤ nI j := nI_ge (b := 8) b (by omega)
    have b2 : ¬ (7 : Int32) < nI j := by
      rw [show (7 : Int32) = nI 7 from rfl, nI_ltI (by omega) hj]; omega
    by_cases z : st = 0
    · have e := r1 z
      subst e
      exact br_f a (br_f b1 (br_f (nI_nlt (by omega) hj) (br_t z ⟨rfl, Iu⟩)))
    · obtain ⟨q1, q2, q3⟩ := r2 z
      subst q1
      by_cases d : j < od
      · have e : (nI od - 1 - nI j) &&& 7 = nI ((od - 1 - j) % 8) := by
          rw [show (1 : Int32) = nI 1 from rfl, pk_sub (by omega), pk_sub (by omega)]
          exact pk_andN (by omega) 3 (by decide)
        refine br_f a (br_f b1 (br_t (nI_lt d (by omega)) ?_))
        rw [e, nI_clamp (by omega)]
        refine ⟨vp_in_nI (by omega) (by omega), br_f z (br_f a (br_f b2 (br_t (nI_lt d (by omega)) ⟨vp_in_nI b (by omega), ?_, Iu⟩)))⟩
        rw [nI_clamp (by omega)]
        exact (q3 j b d).symm
      · exact br_f a (br_f b1 (br_f (nI_nlt (by omega) hj) (br_f z (br_f a (br_f b2 (br_f (nI_nlt (by omega) hj) ⟨rfl, Iu⟩))))))
  · have b1 : (8 : Int32) ≤ nI j := nI_le (a := 8) (by omega) hj
    have b2 : (7 : Int32) < nI j := nI_lt (a := 7) (by omega) hj
    exact br_f a (br_t b1 (br_c (fun _ => ⟨rfl, Iu⟩) (fun _ => br_f a (br_t b2 ⟨rfl, Iu⟩))))
end
