section
theorem pk_us {f : Nat → Int32} {k : Nat} {x : Int32} : upd f k x k = x := if_pos rfl
theorem pk_un {f : Nat → Int32} {k j : Nat} {x : Int32} (h : j ≠ k) : upd f k x j = f j := if_neg h
theorem pk_sub {a b : Nat} (h : b ≤ a) : nI a - nI b = nI (a - b) := by
  obtain ⟨c, rfl⟩ : ∃ c, a = c + b := ⟨a - b, by omega⟩
  rw [← nI_add, Int32.add_sub_cancel, Nat.add_sub_cancel]
theorem pk_m1 (n : Nat) : nI (n + 1) + (-1) = nI n := by
  rw [← nI_1, Int32.add_assoc, show (1 : Int32) + (-1) = 0 from rfl, Int32.add_zero]
theorem pk_mul (a b : Nat) : nI a * nI b = nI (a * b) := (Int32.ofNat_mul a b).symm
theorem pk_div {a d : Nat} (ha : a < 2 ^ 31) (h0 : 0 < d) (hd : d < 2 ^ 31) : nI a / nI d = nI (a / d) := by
  apply Int32.toInt_inj.mp
  rw [lg_idiv_nonneg (by rw [nI_toInt ha]; omega) (by rw [nI_toInt hd]; omega), nI_toInt ha, nI_toInt hd, nI_toInt (Nat.lt_of_le_of_lt (Nat.div_le_self a d) ha)]
  first | rfl | exact (Int.natCast_ediv _ _).symm
theorem pk_rem {a d : Nat} (ha : a < 2 ^ 31) (h0 : 0 < d) (hd : d < 2 ^ 31) : nI a - nI a / nI d * nI d = nI (a % d) := by
  rw [pk_div ha h0 hd, pk_mul, pk_sub (Nat.div_mul_le_self a d)]
  exact congrArg nI (by have := Nat.div_add_mod' a d; omega)
theorem pk_ix (x : Int32) {n : Nat} (hn : n < 2 ^ 31) : x < 0 ∨ nI n ≤ x ∨ ∃ j : Nat, j < n ∧ x = nI j := by
  by_cases h : x < 0
  · exact Or.inl h
  · obtain ⟨j, hj, rfl⟩ := nI_of h
    by_cases h2 : j < n
    · exact Or.inr (Or.inr ⟨j, h2, rfl⟩)
    · exact Or.inr (Or.inl (nI_le (by omega) hj))
theorem pk_le {x y : Int32} {A B : Prop} (a b : Nat) (f : a ≤ b → A) (g : b < a → B) (hx : x = nI a := by rfl) (hy : y = nI b := by rfl) (ha : a < 2 ^ 31 := by omega) (hb : b < 2 ^ 31 := by omega) : (x ≤ y → A) ∧ (¬ x ≤ y → B) := by
  subst hx hy
  rw [nI_leI ha hb]
  exact ⟨f, fun z => g (by omega)⟩
theorem pk_lt {x y : Int32} {A B : Prop} (a b : Nat) (f : a < b → A) (g : b ≤ a → B) (hx : x = nI a := by rfl) (hy : y = nI b := by rfl) (ha : a < 2 ^ 31 := by omega) (hb : b < 2 ^ 31 := by omega) : (x < y → A) ∧ (¬ x < y → B) := by
  subst hx hy
  rw [nI_ltI ha hb]
  exact ⟨f, fun z => g (by omega)⟩
theorem pk_eq {x y : Int32} {A B : Prop} (a b : Nat) (f : a = b → A) (g : a ≠ b → B) (hx : x = nI a := by rfl) (hy : y = nI b := by rfl) (ha : a < 2 ^ 31 := by omega) (hb : b < 2 ^ 31 := by omega) : (x = y → A) ∧ (¬ x = y → B) := by
  subst hx hy
  rw [nI_eq ha hb]
  exact ⟨f, g⟩
theorem pk_in {x : Int32} (n N : Nat) (h : n < N) (hx : x = nI n := by rfl) (hN : N < 2 ^ 31 := by omega) : vp_in x N := by
  subst hx
  exact vp_in_nI h hN
theorem pk_cl {x : Int32} (n : Nat) (hx : x = nI n := by rfl) (h : n < 2 ^ 31 := by omega) : x.toNatClampNeg = n := by
  subst hx
  exact nI_clamp h
theorem pk_tn {n : Nat} (h : n < 2 ^ 32) : (nI n).toBitVec.toNat = n := Nat.mod_eq_of_lt h
theorem pk_and (x : Int32) {m : Int32} (k : Nat) (hm : m.toBitVec.toNat = 2 ^ k - 1) : x &&& m = nI (x.toBitVec.toNat % 2 ^ k) := by
  apply Int32.toBitVec_inj.mp
  apply BitVec.eq_of_toNat_eq
  rw [Int32.toBitVec_and, BitVec.toNat_and, hm, Nat.and_two_pow_sub_one_eq_mod]
  show _ = (BitVec.ofNat 32 _).toNat
  rw [BitVec.toNat_ofNat]
  exact (Nat.mod_eq_of_lt (Nat.lt_of_le_of_lt (Nat.mod_le _ _) x.toBitVec.isLt)).symm
theorem pk_andN {n : Nat} (h : n < 2 ^ 32) {m : Int32} (k : Nat) (hm : m.toBitVec.toNat = 2 ^ k - 1) : nI n &&& m = nI (n % 2 ^ k) := by
  rw [pk_and _ k hm, pk_tn h]
theorem pk_andE (x : Int32) {m : Int32} (k : Nat) (hm : m.toBitVec.toNat = 2 ^ k - 1) : ∃ j : Nat, j < 2 ^ k ∧ x &&& m = nI j := ⟨_, Nat.mod_lt _ (Nat.two_pow_pos k), pk_and x k hm⟩
theorem pk_andIn (x : Int32) {m : Int32} (k : Nat) (hm : m.toBitVec.toNat = 2 ^ k - 1) (hk : k ≤ 30) : vp_in (x &&& m) (2 ^ k) := by
  obtain ⟨j, hj, e⟩ := pk_andE x k hm
  rw [e]
  exact vp_in_nI hj (Nat.lt_of_le_of_lt (Nat.pow_le_pow_right (by decide) hk) (by decide))
theorem pk_shl (a s : Int32) (k : Nat) (hs : (s.toBitVec.smod 32).toNat = k) : (a <<< s).toBitVec.toNat = a.toBitVec.toNat * 2 ^ k % 2 ^ 32 := by
  show (a.toBitVec <<< (s.toBitVec.smod 32).toNat).toNat = _
  rw [hs, BitVec.toNat_shiftLeft, Nat.shiftLeft_eq]
theorem pk_shlN {n : Nat} (s : Int32) (k : Nat) (hs : (s.toBitVec.smod 32).toNat = k) (h : n * 2 ^ k < 2 ^ 32) : nI n <<< s = nI (n * 2 ^ k) := by
  apply Int32.toBitVec_inj.mp
  apply BitVec.eq_of_toNat_eq
  have hn : n < 2 ^ 32 := Nat.lt_of_le_of_lt (Nat.le_mul_of_pos_right n (Nat.two_pow_pos k)) h
  rw [pk_shl _ _ k hs, pk_tn hn, pk_tn h, Nat.mod_eq_of_lt h]
theorem pk_shr (a s : Int32) (k : Nat) (hs : (s.toBitVec.smod 32).toNat = k) : (a >>> s).toInt = a.toInt >>> k := by
  show (a.toBitVec.sshiftRight (s.toBitVec.smod 32).toNat).toInt = _
  rw [hs, BitVec.toInt_sshiftRight]
  rfl
theorem pk_shrN {n : Nat} (h : n < 2 ^ 31) (s : Int32) (k : Nat) (hs : (s.toBitVec.smod 32).toNat = k) : nI n >>> s = nI (n / 2 ^ k) := by
  apply Int32.toInt_inj.mp
  have h2 : n / 2 ^ k ≤ n := Nat.div_le_self _ _
  rw [pk_shr _ _ k hs, nI_toInt h, nI_toInt (by omega), Int.shiftRight_eq_div_pow]
  rfl
def bt (x : Int32) (i : Nat) : Bool := x.toBitVec.getLsbD i
theorem b_ext {x y : Int32} (h : ∀ i, i < 32 → bt x i = bt y i) : x = y := Int32.toBitVec_inj.mp (BitVec.eq_of_getLsbD_eq (fun i hi => h i hi))
theorem b_or (x y : Int32) (i : Nat) : bt (x ||| y) i = (bt x i || bt y i) := by unfold bt; rw [Int32.toBitVec_or, BitVec.getLsbD_or]
theorem b_and (x y : Int32) (i : Nat) : bt (x &&& y) i = (bt x i && bt y i) := by unfold bt; rw [Int32.toBitVec_and, BitVec.getLsbD_and]
theorem b_xor (x y : Int32) (i : Nat) : bt (x ^^^ y) i = (bt x i ^^ bt y i) := by unfold bt; rw [Int32.toBitVec_xor, BitVec.getLsbD_xor]
theorem b_big {x : Int32} {i : Nat} (h : 32 ≤ i) : bt x i = false := BitVec.getLsbD_of_ge _ _ h
theorem b_m1 : ∀ i, i < 32 → bt (-1) i = true := by decide +kernel
theorem b_0 (i : Nat) : bt 0 i = false := BitVec.getLsbD_zero
theorem s_l : ∀ n, n < 32 → ((nI n &&& 31).toBitVec.smod 32).toNat = n := by decide +kernel
theorem s_u : ∀ n, n < 32 → (((nI n).toUInt32 &&& Int32.toUInt32 31).toBitVec % 32).toNat = n := by decide +kernel
theorem b_shl (n : Nat) (hn : n < 32) (x : Int32) {i : Nat} (hi : i < 32) : bt (x <<< (nI n &&& 31)) i = (decide (n ≤ i) && bt x (i - n)) := by
  unfold bt
  rw [Int32.toBitVec_shiftLeft]
  show (x.toBitVec <<< ((nI n &&& 31).toBitVec.smod 32).toNat).getLsbD i = _
  rw [s_l n hn, BitVec.getLsbD_shiftLeft]
  rcases Nat.lt_or_ge i n with h | h
  · simp [h, Nat.not_le.mpr h]
  · simp [hi, h, Nat.not_lt.mpr h]
theorem b_ushr (n : Nat) (hn : n < 32) (x : Int32) (i : Nat) : bt ((x.toUInt32 >>> ((nI n).toUInt32 &&& Int32.toUInt32 31)).toInt32) i = bt x (n + i) := by
  show (x.toUInt32 >>> ((nI n).toUInt32 &&& Int32.toUInt32 31)).toBitVec.getLsbD i = x.toUInt32.toBitVec.getLsbD (n + i)
  rw [UInt32.toBitVec_shiftRight]
  show (x.toUInt32.toBitVec >>> (((nI n).toUInt32 &&& Int32.toUInt32 31).toBitVec % 32).toNat).getLsbD i = _
  rw [s_u n hn, BitVec.getLsbD_ushiftRight]
theorem b_sshr (n : Nat) (hn : n < 32) (x : Int32) {i : Nat} (hi : i < 32) : bt (x >>> (nI n &&& 31)) i = if n + i < 32 then bt x (n + i) else bt x 31 := by
  unfold bt
  rw [Int32.toBitVec_shiftRight]
  show (x.toBitVec.sshiftRight ((nI n &&& 31).toBitVec.smod 32).toNat).getLsbD i = _
  rw [s_l n hn, BitVec.getLsbD_sshiftRight, BitVec.msb_eq_getLsbD_last]
  simp [hi]
end
section
/-- bits 20 and above are 0 -/
def ac_lo (x : Int32) : Prop := ∀ b, 20 ≤ b → bt x b = false
/-- one bit after an instruction: w written place, v written value, q first place, a first value -/
def ac_nb (o : Int32) (w v q a : Nat) (fr : Bool) (g : Nat → Bool) (b : Nat) : Bool :=
  if o = 0 ∨ o = 1 then (if b / 4 = w ∨ b % 4 = v then (if b / 4 = w ∧ b % 4 = v then fr else !fr) else g b)
  else if o = 2 then (if b / 4 = w then g (4 * q + b % 4) else g b)
  else if o = 4 then (if b % 4 = v then g (4 * (b / 4) + a) else g b)
  else g b
/-- what is carried after an instruction, as the class reckons it -/
def ac_xa (o : Int32) (w v q a : Nat) (x : Int32) : Int32 :=
  if o = 0 ∨ o = 1 then ((x &&& (((15 : Int32) <<< (nI (4 * w) &&& 31)) ^^^ (-1))) &&& (((69905 : Int32) <<< (nI v &&& 31)) ^^^ (-1))) ||| ((1 : Int32) <<< (nI (4 * w + v) &&& 31))
  else if o = 2 then (x &&& (((15 : Int32) <<< (nI (4 * w) &&& 31)) ^^^ (-1))) ||| ((((x.toUInt32 >>> ((nI (4 * q)).toUInt32 &&& Int32.toUInt32 31)).toInt32) &&& 15) <<< (nI (4 * w) &&& 31))
  else if o = 4 then (x &&& (((69905 : Int32) <<< (nI v &&& 31)) ^^^ (-1))) ||| ((((x.toUInt32 >>> ((nI a).toUInt32 &&& Int32.toUInt32 31)).toInt32) &&& 69905) <<< (nI v &&& 31))
  else x
theorem ac_t1 : ∀ w, w < 5 → ∀ b, b < 32 → bt ((15 : Int32) <<< (nI (4 * w) &&& 31)) b = decide (b / 4 = w) := by decide +kernel
theorem ac_t2 : ∀ v, v < 4 → ∀ b, b < 32 → bt ((69905 : Int32) <<< (nI v &&& 31)) b = decide (b < 20 ∧ b % 4 = v) := by decide +kernel
theorem ac_t3 : ∀ w, w < 5 → ∀ v, v < 4 → ∀ b, b < 32 → bt ((1 : Int32) <<< (nI (4 * w + v) &&& 31)) b = decide (b / 4 = w ∧ b % 4 = v) := by decide +kernel
theorem ac_t4 : ∀ b, b < 32 → bt (15 : Int32) b = decide (b < 4) := by decide +kernel
theorem ac_t5 : ∀ b, b < 32 → bt (69905 : Int32) b = decide (b < 20 ∧ b % 4 = 0) := by decide +kernel
theorem ac_t6 : ∀ b, b < 32 → bt (1048575 : Int32) b = decide (b < 20) := by decide +kernel
theorem ac_t7 : ∀ b, b < 32 → bt (1 : Int32) b = decide (b = 0) := by decide +kernel
theorem ac_not (x : Int32) {b : Nat} (h : b < 32) : bt (x ^^^ (-1)) b = !bt x b := by
  rw [b_xor, b_m1 b h]; cases bt x b <;> rfl
theorem ac_xab {o : Int32} {w v q a : Nat} (hw : w < 5) (hv : v < 4) (hq : q < 5) (ha : a < 4) {x : Int32} (hx : ac_lo x) {b : Nat} (hb : b < 32) :
    bt (ac_xa o w v q a x) b = (decide (b < 20) && ac_nb o w v q a true (bt x) b) := by
  unfold ac_xa ac_nb
  by_cases h1 : o = 0 ∨ o = 1
  · rw [if_pos h1, if_pos h1, b_or, b_and, b_and, ac_not _ hb, ac_not _ hb, ac_t1 w hw b hb, ac_t2 v hv b hb, ac_t3 w hw v hv b hb]
    by_cases hb2 : b < 20
    · by_cases e1 : b / 4 = w <;> by_cases e2 : b % 4 = v <;> simp [e1, e2, hb2]
    · have e1 : ¬ b / 4 = w := by omega
      simp [e1, hb2, hx b (by omega)]
  · rw [if_neg h1, if_neg h1]
    by_cases h2 : o = 2
    · rw [if_pos h2, if_pos h2, b_or, b_and, ac_not _ hb, ac_t1 w hw b hb, b_shl (4 * w) (by omega) _ hb, b_and, b_ushr (4 * q) (by omega), ac_t4 (b - 4 * w) (by omega)]
      by_cases e1 : b / 4 = w
      · have e2 : 4 * w ≤ b := by omega
        have e3 : b - 4 * w = b % 4 := by omega
        have e4 : b % 4 < 4 := by omega
        have e5 : b < 20 := by omega
        simp [e1, e2, e3, e4, e5]
      · have e2 : ¬ (4 * w ≤ b ∧ b - 4 * w < 4) := by omega
        by_cases e3 : 4 * w ≤ b
        · have e4 : ¬ b - 4 * w < 4 := fun z => e2 ⟨e3, z⟩
          by_cases hb2 : b < 20
          · simp [e1, e4, hb2]
          · simp [e1, e4, hb2, hx b (by omega)]
        · by_cases hb2 : b < 20
          · simp [e1, e3, hb2]
          · simp [e1, e3, hb2, hx b (by omega)]
    · rw [if_neg h2, if_neg h2]
      by_cases h3 : o = 4
      · rw [if_pos h3, if_pos h3, b_or, b_and, ac_not _ hb, ac_t2 v hv b hb, b_shl v (by omega) _ hb, b_and, b_ushr a (by omega), ac_t5 (b - v) (by omega)]
        by_cases hb2 : b < 20
        · by_cases e1 : b % 4 = v
          · have e2 : v ≤ b := by omega
            have e3 : a + (b - v) = 4 * (b / 4) + a := by omega
            have e4 : b - v < 20 ∧ (b - v) % 4 = 0 := by omega
            simp [hb2, e1, e2, e3, e4]
          · by_cases e2 : v ≤ b
            · have e4 : ¬ (b - v < 20 ∧ (b - v) % 4 = 0) := by omega
              rw [decide_eq_false e4]
              simp [hb2, e1]
            · simp [hb2, e1, e2]
        · by_cases e2 : b - v < 20
          · have e4 : ¬ (b - v < 20 ∧ (b - v) % 4 = 0) := by omega
            rw [decide_eq_false e4]
            simp [hb2, hx b (by omega)]
          · simp [hb2, e2, hx b (by omega)]
      · rw [if_neg h3, if_neg h3]
        by_cases hb2 : b < 20
        · simp [hb2]
        · simp [hb2, hx b (by omega)]
theorem ac_xal {o : Int32} {w v q a : Nat} (hw : w < 5) (hv : v < 4) (hq : q < 5) (ha : a < 4) {x : Int32} (hx : ac_lo x) : ac_lo (ac_xa o w v q a x) := by
  intro b hb
  rcases Nat.lt_or_ge b 32 with h | h
  · rw [ac_xab hw hv hq ha hx h, decide_eq_false (by omega)]; rfl
  · exact b_big h
theorem ac_nbn {o : Int32} {w v q a : Nat} (hq : q < 5) (ha : a < 4) {g g' : Nat → Bool} (h : ∀ i, i < 20 → g i = !g' i) {b : Nat} (hb : b < 20) :
    ac_nb o w v q a false g b = !ac_nb o w v q a true g' b := by
  unfold ac_nb
  have h1 := h b hb
  have h2 := h (4 * q + b % 4) (by omega)
  have h3 := h (4 * (b / 4) + a) (by omega)
  rw [h1, h2, h3]
  repeat' split
  all_goals rfl
theorem ac_xm (x : Int32) {b : Nat} (h : b < 20) : bt (x ^^^ 1048575) b = !bt x b := by
  rw [b_xor, ac_t6 b (by omega), decide_eq_true h]; cases bt x b <;> rfl
theorem ac_xm2 (x : Int32) {b : Nat} (h : 20 ≤ b) : bt (x ^^^ 1048575) b = bt x b := by
  rcases Nat.lt_or_ge b 32 with h2 | h2
  · rw [b_xor, ac_t6 b h2, decide_eq_false (by omega)]; cases bt x b <;> rfl
  · rw [b_big h2, b_big h2]
theorem ac_xmm (x : Int32) : (x ^^^ 1048575) ^^^ 1048575 = x := by
  apply b_ext; intro b _
  rw [b_xor, b_xor]; cases bt x b <;> cases bt 1048575 b <;> rfl
theorem ac_xmi {x y : Int32} (h : x ^^^ 1048575 = y ^^^ 1048575) : x = y := by
  rw [← ac_xmm x, h, ac_xmm]
theorem ac_dm {x y : Int32} (hx : ac_lo x) (hy : ac_lo y) : (x ^^^ 1048575) ||| (y ^^^ 1048575) = (x &&& y) ^^^ 1048575 := by
  apply b_ext; intro b _
  rcases Nat.lt_or_ge b 20 with h | h
  · rw [b_or, ac_xm _ h, ac_xm _ h, ac_xm _ h, b_and]; cases bt x b <;> cases bt y b <;> rfl
  · rw [b_or, ac_xm2 _ h, ac_xm2 _ h, ac_xm2 _ h, b_and, hx b h, hy b h]; rfl
theorem ac_lo0 : ac_lo 0 := fun b _ => b_0 b
theorem ac_loA {x y : Int32} (hx : ac_lo x) : ac_lo (x &&& y) := fun b h => by rw [b_and, hx b h]; rfl
theorem ac_loO {x y : Int32} (hx : ac_lo x) (hy : ac_lo y) : ac_lo (x ||| y) := fun b h => by rw [b_or, hx b h, hy b h]; rfl
theorem ac_0or (x : Int32) : 0 ||| x = x := by
  apply b_ext; intro b _
  rw [b_or, b_0]; rfl
theorem ac_or0 {x y : Int32} : x ||| y = 0 ↔ x = 0 ∧ y = 0 := by
  constructor
  · intro h
    have hb : ∀ b, bt x b = false ∧ bt y b = false := by
      intro b
      have := b_or x y b
      rw [h, b_0] at this
      cases hx : bt x b <;> cases hy : bt y b <;> simp_all
    exact ⟨b_ext (fun b _ => by rw [(hb b).1, b_0]), b_ext (fun b _ => by rw [(hb b).2, b_0])⟩
  · rintro ⟨rfl, rfl⟩; exact ac_0or 0
theorem ac_one (y : Int32) {k : Nat} (hk : k < 32) {j : Nat} (hj : j < 32) : bt ((y >>> (nI k &&& 31)) &&& 1) j = (decide (j = 0) && bt y k) := by
  rw [b_and, ac_t7 j hj]
  by_cases h : j = 0
  · subst h
    rw [b_sshr k hk y hj, if_pos (by omega)]
    simp
  · simp [h]
theorem ac_sb (x : Int32) {k : Nat} (hk : k < 32) : ((x >>> (nI k &&& 31)) &&& 1) = 1 ↔ bt x k = true := by
  constructor
  · intro h
    have := ac_one x hk (j := 0) (by omega)
    rw [h, ac_t7 0 (by omega)] at this
    simpa using this.symm
  · intro h
    apply b_ext; intro b hb
    rw [ac_one x hk hb, h, ac_t7 b hb]; simp
theorem ac_ub (x : Int32) {k : Nat} (hk : k < 32) : (((x.toUInt32 >>> ((nI k).toUInt32 &&& Int32.toUInt32 31)).toInt32) &&& 1) = 1 ↔ bt x k = true := by
  constructor
  · intro h
    have := b_and ((x.toUInt32 >>> ((nI k).toUInt32 &&& Int32.toUInt32 31)).toInt32) 1 0
    rw [h, b_ushr k hk, ac_t7 0 (by omega)] at this
    simpa using this.symm
  · intro h
    apply b_ext; intro b hb
    rw [b_and, b_ushr k hk, ac_t7 b hb]
    by_cases e : b = 0
    · subst e; simp [h]
    · simp [e]
end
section
abbrev ac_T : Type := (Nat → Int32) × (Nat → Int32) × (Nat → Int32)
abbrev ac_n (f : Nat → Int32) (i : Nat) : Nat := (f i).toNatClampNeg
def ac_bI (f : Bool) : Int32 := if f then 1 else 0
def ac_In (N : Nat) (f : Nat → Int32) : Prop := ∀ i, ∃ j, j < N ∧ f i = nI j
theorem ac_InU {N : Nat} {f : Nat → Int32} (h : ac_In N f) {k : Nat} {x : Int32} {j : Nat} (hj : j < N) (e : x = nI j) : ac_In N (upd f k x) := by
  intro i
  by_cases z : i = k
  · exact ⟨j, hj, by rw [z, pk_us, e]⟩
  · rw [pk_un z]; exact h i
theorem ac_In0 {N : Nat} (h : 0 < N) : ac_In N (fun _ => 0) := fun _ => ⟨0, h, rfl⟩
theorem ac_InN {N : Nat} {f : Nat → Int32} (h : ac_In N f) (hN : N < 2 ^ 31) (i : Nat) : ac_n f i < N ∧ f i = nI (ac_n f i) := by
  obtain ⟨j, hj, e⟩ := h i
  have e2 : ac_n f i = j := by unfold ac_n; rw [e, nI_clamp (by omega)]
  rw [e2]; exact ⟨hj, e⟩
/-- a position is told what is carried on a way to it -/
def ac_arr (s : ac_T) (q : Nat) (a b : Int32) : ac_T × Bool :=
  if s.1 q = 0 then ((upd s.1 q 1, upd s.2.1 q a, upd s.2.2 q b), true)
  else ((s.1, upd s.2.1 q (s.2.1 q &&& a), upd s.2.2 q (s.2.2 q ||| b)), decide (¬ (s.2.1 q &&& a = s.2.1 q ∧ s.2.2 q ||| b = s.2.2 q)))
section
variable (op v0 v1 p0 p1 nu : Nat → Int32) (c : Nat)
def ac_af (p : Nat) (x : Int32) : Int32 := ac_xa (op p) (ac_n p0 p) (ac_n v0 p) (ac_n p1 p) (ac_n v1 p) x
def ac_g1 (p : Nat) (s : ac_T) : ac_T × Bool :=
  if op p ≠ 6 ∧ op p ≠ 7 ∧ p + 1 < c then ac_arr s (p + 1) (ac_af op v0 v1 p0 p1 p (s.2.1 p)) (ac_af op v0 v1 p0 p1 p (s.2.2 p)) else (s, false)
def ac_g2 (p : Nat) (a b : Int32) (s : ac_T) : ac_T × Bool :=
  if (op p = 5 ∨ op p = 6) ∧ ¬ nu p < 0 ∧ ¬ nI c ≤ nu p then ac_arr s (nu p).toNatClampNeg a b else (s, false)
def ac_go (p : Nat) (s : ac_T) : ac_T × Bool :=
  ((ac_g2 op nu c p (ac_af op v0 v1 p0 p1 p (s.2.1 p)) (ac_af op v0 v1 p0 p1 p (s.2.2 p)) (ac_g1 op v0 v1 p0 p1 c p s).1).1,
   (ac_g1 op v0 v1 p0 p1 c p s).2 || (ac_g2 op nu c p (ac_af op v0 v1 p0 p1 p (s.2.1 p)) (ac_af op v0 v1 p0 p1 p (s.2.2 p)) (ac_g1 op v0 v1 p0 p1 c p s).1).2)
def ac_ps : Nat → Nat → ac_T → Bool → ac_T × Bool
  | 0, _, s, f => (s, f)
  | d + 1, p, s, f => if s.1 p = 0 then ac_ps d (p + 1) s f else ac_ps d (p + 1) (ac_go op v0 v1 p0 p1 nu c p s).1 (f || (ac_go op v0 v1 p0 p1 nu c p s).2)
def ac_F (s : ac_T) : ac_T × Bool := ac_ps op v0 v1 p0 p1 nu c c 0 s false
end
def ac_it (F : ac_T → ac_T × Bool) : Nat → ac_T → ac_T
  | 0, s => s
  | n + 1, s => if (F s).2 = true then ac_it F n (F s).1 else (F s).1
/-- the start of all walks -/
def ac_Ini (c : Nat) (s : ac_T) : Prop := (∀ i, i < 14 → s.1 i = if i = 0 ∧ 0 < c then 1 else 0) ∧ (0 < c → s.2.1 0 = 0 ∧ s.2.2 0 = 0)
/-! the measure -/
def ac_cn (g : Nat → Bool) : Nat → Nat
  | 0 => 0
  | n + 1 => ac_cn g n + (if g n = true then 1 else 0)
theorem ac_cn_le (g : Nat → Bool) : ∀ n, ac_cn g n ≤ n := by
  intro n
  induction n with
  | zero => exact Nat.le_refl _
  | succ n ih => unfold ac_cn; split <;> omega
theorem ac_cn_mo {g h : Nat → Bool} : ∀ n, (∀ b, b < n → g b = true → h b = true) → ac_cn g n ≤ ac_cn h n := by
  intro n
  induction n with
  | zero => intro _; exact Nat.le_refl _
  | succ n ih =>
    intro H
    have i1 := ih (fun b hb => H b (by omega))
    have i2 := H n (by omega)
    unfold ac_cn
    by_cases e : g n = true
    · rw [if_pos e, if_pos (i2 e)]; omega
    · rw [if_neg e]; omega
theorem ac_cn_st {g h : Nat → Bool} : ∀ n, (∀ b, b < n → g b = true → h b = true) → (∃ b, b < n ∧ g b = false ∧ h b = true) → ac_cn g n + 1 ≤ ac_cn h n := by
  intro n
  induction n with
  | zero => intro _ ⟨b, hb, _⟩; omega
  | succ n ih =>
    intro H ⟨b, hb, hg, hh⟩
    by_cases e : b = n
    · subst e
      have i1 := ac_cn_mo b (fun x hx => H x (by omega))
      unfold ac_cn
      rw [hg, hh]; simp; omega
    · have i1 := ih (fun x hx => H x (by omega)) ⟨b, by omega, hg, hh⟩
      have i2 := H n (by omega)
      unfold ac_cn
      by_cases e : g n = true
      · rw [if_pos e, if_pos (i2 e)]; omega
      · rw [if_neg e]; omega
def ac_m3 (r x y : Int32) : Nat := if r = 0 then 0 else 1 + ac_cn (fun b => !bt x b) 20 + ac_cn (bt y) 20
def ac_m1 (s : ac_T) (i : Nat) : Nat := ac_m3 (s.1 i) (s.2.1 i) (s.2.2 i)
def ac_mu (s : ac_T) : Nat → Nat
  | 0 => 0
  | n + 1 => ac_mu s n + ac_m1 s n
theorem ac_mu_le (s : ac_T) : ∀ n, ac_mu s n ≤ 41 * n := by
  intro n
  induction n with
  | zero => exact Nat.le_refl _
  | succ n ih =>
    have i1 := ac_cn_le (fun b => !bt (s.2.1 n) b) 20
    have i2 := ac_cn_le (bt (s.2.2 n)) 20
    have i3 : ac_m1 s n ≤ 41 := by unfold ac_m1 ac_m3; split <;> omega
    unfold ac_mu; omega
theorem ac_mu_mo {s t : ac_T} : ∀ n, (∀ i, i < n → ac_m1 s i ≤ ac_m1 t i) → ac_mu s n ≤ ac_mu t n := by
  intro n
  induction n with
  | zero => intro _; exact Nat.le_refl _
  | succ n ih =>
    intro H
    have i1 := ih (fun i hi => H i (by omega))
    have i2 := H n (by omega)
    unfold ac_mu; omega
theorem ac_mu_st {s t : ac_T} {q : Nat} (hq : ac_m1 s q + 1 ≤ ac_m1 t q) : ∀ n, (∀ i, i < n → ac_m1 s i ≤ ac_m1 t i) → q < n → ac_mu s n + 1 ≤ ac_mu t n := by
  intro n
  induction n with
  | zero => intro _ h; omega
  | succ n ih =>
    intro H h
    have i2 := H n (by omega)
    by_cases e : q = n
    · subst e
      have i1 := ac_mu_mo q (fun i hi => H i (by omega))
      unfold ac_mu; omega
    · have i1 := ih (fun i hi => H i (by omega)) (by omega)
      unfold ac_mu; omega
def ac_Ok (s : ac_T) : Prop := ∀ i, i < 14 → s.1 i ≠ 0 → ac_lo (s.2.1 i) ∧ ac_lo (s.2.2 i)
def ac_Gr (s : ac_T) (r : ac_T × Bool) : Prop := ac_Ok r.1 ∧ ac_mu s 14 ≤ ac_mu r.1 14 ∧ (r.2 = true → ac_mu s 14 + 1 ≤ ac_mu r.1 14)
theorem ac_updSelf (f : Nat → Int32) (q : Nat) : upd f q (f q) = f := by
  funext j
  by_cases e : j = q
  · rw [e, pk_us]
  · rw [pk_un e]
theorem ac_bex {x y : Int32} (hx : ac_lo x) (hy : ac_lo y) (h : x ≠ y) : ∃ b, b < 20 ∧ bt x b ≠ bt y b := by
  apply Classical.byContradiction
  intro z
  apply h
  apply b_ext
  intro b _
  rcases Nat.lt_or_ge b 20 with h2 | h2
  · apply Classical.byContradiction
    intro z2
    exact z ⟨b, h2, z2⟩
  · rw [hx b h2, hy b h2]
theorem ac_arrOk {s : ac_T} (hs : ac_Ok s) {q : Nat} (hq : q < 14) {a b : Int32} (ha : ac_lo a) (hb : ac_lo b) : ac_Gr s (ac_arr s q a b) := by
  unfold ac_arr
  by_cases h0 : s.1 q = 0
  · rw [if_pos h0]
    have hm : ∀ i, i ≠ q → ac_m1 (upd s.1 q 1, upd s.2.1 q a, upd s.2.2 q b) i = ac_m1 s i := by
      intro i hi
      show ac_m3 (upd s.1 q 1 i) (upd s.2.1 q a i) (upd s.2.2 q b i) = ac_m3 (s.1 i) (s.2.1 i) (s.2.2 i)
      rw [pk_un hi, pk_un hi, pk_un hi]
    have h1 : ac_m1 s q = 0 := by unfold ac_m1 ac_m3; rw [if_pos h0]
    have h2 : 1 ≤ ac_m1 (upd s.1 q 1, upd s.2.1 q a, upd s.2.2 q b) q := by
      show 1 ≤ ac_m3 (upd s.1 q 1 q) (upd s.2.1 q a q) (upd s.2.2 q b q)
      rw [pk_us]
      unfold ac_m3
      rw [if_neg (by decide)]; omega
    have h3 : ∀ i, i < 14 → ac_m1 s i ≤ ac_m1 (upd s.1 q 1, upd s.2.1 q a, upd s.2.2 q b) i := by
      intro i _
      by_cases e : i = q
      · subst e; omega
      · rw [hm i e]; exact Nat.le_refl _
    refine ⟨?_, ac_mu_mo 14 h3, fun _ => ac_mu_st (q := q) (by rw [h1]; exact h2) 14 h3 hq⟩
    intro i hi hne
    dsimp only at hne ⊢
    by_cases e : i = q
    · subst e; rw [pk_us, pk_us]; exact ⟨ha, hb⟩
    · rw [pk_un e] at hne
      rw [pk_un e, pk_un e]; exact hs i hi hne
  · rw [if_neg h0]
    obtain ⟨l1, l2⟩ := hs q hq h0
    have hm : ∀ i, i ≠ q → ac_m1 (s.1, upd s.2.1 q (s.2.1 q &&& a), upd s.2.2 q (s.2.2 q ||| b)) i = ac_m1 s i := by
      intro i hi
      show ac_m3 (s.1 i) (upd s.2.1 q (s.2.1 q &&& a) i) (upd s.2.2 q (s.2.2 q ||| b) i) = ac_m3 (s.1 i) (s.2.1 i) (s.2.2 i)
      rw [pk_un hi, pk_un hi]
    have c1 : ac_cn (fun b => !bt (s.2.1 q) b) 20 ≤ ac_cn (fun b => !bt (s.2.1 q &&& a) b) 20 := by
      apply ac_cn_mo
      intro x _
      rw [b_and]; cases bt (s.2.1 q) x <;> simp
    have c2 : ac_cn (bt (s.2.2 q)) 20 ≤ ac_cn (bt (s.2.2 q ||| b)) 20 := by
      apply ac_cn_mo
      intro x _
      rw [b_or]; cases bt (s.2.2 q) x <;> simp
    have e1 : ac_m1 s q = 1 + ac_cn (fun b => !bt (s.2.1 q) b) 20 + ac_cn (bt (s.2.2 q)) 20 := by unfold ac_m1 ac_m3; rw [if_neg h0]
    have e2 : ac_m1 (s.1, upd s.2.1 q (s.2.1 q &&& a), upd s.2.2 q (s.2.2 q ||| b)) q = 1 + ac_cn (fun x => !bt (s.2.1 q &&& a) x) 20 + ac_cn (bt (s.2.2 q ||| b)) 20 := by
      show ac_m3 (s.1 q) (upd s.2.1 q (s.2.1 q &&& a) q) (upd s.2.2 q (s.2.2 q ||| b) q) = _
      rw [pk_us, pk_us]
      unfold ac_m3
      rw [if_neg h0]
    have h3 : ∀ i, i < 14 → ac_m1 s i ≤ ac_m1 (s.1, upd s.2.1 q (s.2.1 q &&& a), upd s.2.2 q (s.2.2 q ||| b)) i := by
      intro i _
      by_cases e : i = q
      · subst e; omega
      · rw [hm i e]; exact Nat.le_refl _
    refine ⟨?_, ac_mu_mo 14 h3, fun hf => ac_mu_st (q := q) ?_ 14 h3 hq⟩
    · clear e1 e2 h3
      intro i hi hne
      dsimp only at hne ⊢
      by_cases e : i = q
      · subst e; rw [pk_us, pk_us]; exact ⟨ac_loA l1, ac_loO l2 hb⟩
      · rw [pk_un e, pk_un e]; exact hs i hi hne
    · dsimp only at hf
      show ac_m1 s q + 1 ≤ ac_m1 (s.1, upd s.2.1 q (s.2.1 q &&& a), upd s.2.2 q (s.2.2 q ||| b)) q
      have hf2 := of_decide_eq_true hf
      by_cases z : s.2.1 q &&& a = s.2.1 q
      · have z2 : ¬ s.2.2 q ||| b = s.2.2 q := fun y => hf2 ⟨z, y⟩
        obtain ⟨x, hx, hne⟩ := ac_bex (ac_loO l2 hb) l2 z2
        have := ac_cn_st (g := bt (s.2.2 q)) (h := bt (s.2.2 q ||| b)) 20 (by
          intro x _
          rw [b_or]; cases bt (s.2.2 q) x <;> simp) ⟨x, hx, by
            rw [b_or] at hne
            rw [b_or]
            revert hne
            cases bt (s.2.2 q) x <;> cases bt b x <;> simp⟩
        omega
      · obtain ⟨x, hx, hne⟩ := ac_bex (ac_loA l1) l1 z
        have := ac_cn_st (g := fun b => !bt (s.2.1 q) b) (h := fun b => !bt (s.2.1 q &&& a) b) 20 (by
          intro x _
          rw [b_and]; cases bt (s.2.1 q) x <;> simp) ⟨x, hx, by
            rw [b_and] at hne
            rw [b_and]
            revert hne
            cases bt (s.2.1 q) x <;> cases bt a x <;> simp⟩
        omega
theorem ac_arrNe {s : ac_T} {q : Nat} {a b : Int32} {p : Nat} (h : p ≠ q) : (ac_arr s q a b).1.1 p = s.1 p ∧ (ac_arr s q a b).1.2.1 p = s.2.1 p ∧ (ac_arr s q a b).1.2.2 p = s.2.2 p := by
  unfold ac_arr
  split
  · exact ⟨pk_un h, pk_un h, pk_un h⟩
  · exact ⟨rfl, pk_un h, pk_un h⟩
section
variable {op v0 v1 p0 p1 nu : Nat → Int32} {c : Nat}
theorem ac_afl (hv0 : ac_In 4 v0) (hv1 : ac_In 4 v1) (hp0 : ac_In 5 p0) (hp1 : ac_In 5 p1) {p : Nat} {x : Int32} (hx : ac_lo x) : ac_lo (ac_af op v0 v1 p0 p1 p x) :=
  ac_xal (ac_InN hp0 (by omega) p).1 (ac_InN hv0 (by omega) p).1 (ac_InN hp1 (by omega) p).1 (ac_InN hv1 (by omega) p).1 hx
theorem ac_tgt {x : Int32} (hc : c ≤ 14) (h0 : ¬ x < 0) (h1 : ¬ nI c ≤ x) : x.toNatClampNeg < c ∧ x = nI x.toNatClampNeg := by
  obtain ⟨j, hj, rfl⟩ := nI_of h0
  rw [nI_leI (by omega) hj] at h1
  rw [nI_clamp hj]
  exact ⟨by omega, rfl⟩
theorem ac_goOk (hv0 : ac_In 4 v0) (hv1 : ac_In 4 v1) (hp0 : ac_In 5 p0) (hp1 : ac_In 5 p1) (hc : c ≤ 14) {s : ac_T} (hs : ac_Ok s) {p : Nat} (hp : p < c) (hR : s.1 p ≠ 0) : ac_Gr s (ac_go op v0 v1 p0 p1 nu c p s) := by
  have ha : ac_lo (ac_af op v0 v1 p0 p1 p (s.2.1 p)) := ac_afl hv0 hv1 hp0 hp1 (hs p (by omega) hR).1
  have hb : ac_lo (ac_af op v0 v1 p0 p1 p (s.2.2 p)) := ac_afl hv0 hv1 hp0 hp1 (hs p (by omega) hR).2
  have h1 : ac_Gr s (ac_g1 op v0 v1 p0 p1 c p s) := by
    unfold ac_g1
    by_cases h : op p ≠ 6 ∧ op p ≠ 7 ∧ p + 1 < c
    · rw [if_pos h]; exact ac_arrOk hs (by omega) ha hb
    · rw [if_neg h]; exact ⟨hs, Nat.le_refl _, fun z => nomatch z⟩
  have h2 : ac_Gr (ac_g1 op v0 v1 p0 p1 c p s).1 (ac_g2 op nu c p (ac_af op v0 v1 p0 p1 p (s.2.1 p)) (ac_af op v0 v1 p0 p1 p (s.2.2 p)) (ac_g1 op v0 v1 p0 p1 c p s).1) := by
    unfold ac_g2
    by_cases h : (op p = 5 ∨ op p = 6) ∧ ¬ nu p < 0 ∧ ¬ nI c ≤ nu p
    · rw [if_pos h]
      have := ac_tgt hc h.2.1 h.2.2
      exact ac_arrOk h1.1 (by omega) ha hb
    · rw [if_neg h]; exact ⟨h1.1, Nat.le_refl _, fun z => nomatch z⟩
  unfold ac_go
  refine ⟨h2.1, Nat.le_trans h1.2.1 h2.2.1, ?_⟩
  dsimp only
  intro hf
  rw [Bool.or_eq_true] at hf
  rcases hf with hf | hf
  · have := h1.2.2 hf; have := h2.2.1; omega
  · have := h2.2.2 hf; have := h1.2.1; omega
theorem ac_psOk (hv0 : ac_In 4 v0) (hv1 : ac_In 4 v1) (hp0 : ac_In 5 p0) (hp1 : ac_In 5 p1) (hc : c ≤ 14) : ∀ (d p : Nat) (s : ac_T) (f : Bool), p + d = c → ac_Ok s →
    ac_Ok (ac_ps op v0 v1 p0 p1 nu c d p s f).1 ∧ ac_mu s 14 ≤ ac_mu (ac_ps op v0 v1 p0 p1 nu c d p s f).1 14 ∧ ((ac_ps op v0 v1 p0 p1 nu c d p s f).2 = true → f = true ∨ ac_mu s 14 + 1 ≤ ac_mu (ac_ps op v0 v1 p0 p1 nu c d p s f).1 14) := by
  intro d
  induction d with
  | zero => intro p s f _ hs; exact ⟨hs, Nat.le_refl _, fun z => Or.inl z⟩
  | succ d ih =>
    intro p s f hd hs
    unfold ac_ps
    by_cases h : s.1 p = 0
    · rw [if_pos h]; exact ih (p + 1) s f (by omega) hs
    · rw [if_neg h]
      have g := ac_goOk (op := op) (nu := nu) hv0 hv1 hp0 hp1 hc hs (p := p) (by omega) h
      obtain ⟨i1, i2, i3⟩ := ih (p + 1) (ac_go op v0 v1 p0 p1 nu c p s).1 (f || (ac_go op v0 v1 p0 p1 nu c p s).2) (by omega) g.1
      refine ⟨i1, Nat.le_trans g.2.1 i2, fun hf => ?_⟩
      rcases i3 hf with z | z
      · rw [Bool.or_eq_true] at z
        rcases z with z | z
        · exact Or.inl z
        · have := g.2.2 z; exact Or.inr (by omega)
      · have := g.2.1; exact Or.inr (by omega)
theorem ac_FOk (hv0 : ac_In 4 v0) (hv1 : ac_In 4 v1) (hp0 : ac_In 5 p0) (hp1 : ac_In 5 p1) (hc : c ≤ 14) {s : ac_T} (hs : ac_Ok s) : ac_Gr s (ac_F op v0 v1 p0 p1 nu c s) := by
  obtain ⟨h1, h2, h3⟩ := ac_psOk (op := op) (nu := nu) hv0 hv1 hp0 hp1 hc c 0 s false (by omega) hs
  refine ⟨h1, h2, fun hf => ?_⟩
  rcases h3 hf with z | z
  · exact nomatch z
  · exact z
theorem ac_itEq {F : ac_T → ac_T × Bool} (hF : ∀ s, ac_Ok s → ac_Gr s (F s)) (m : Nat) : ∀ (n : Nat) (s : ac_T), ac_Ok s → 575 ≤ n + ac_mu s 14 → ac_it F n s = ac_it F (n + m) s := by
  intro n
  induction n with
  | zero => intro s _ h; have := ac_mu_le s 14; omega
  | succ n ih =>
    intro s hs h
    rw [Nat.add_right_comm]
    unfold ac_it
    obtain ⟨g1, g2, g3⟩ := hF s hs
    by_cases z : (F s).2 = true
    · rw [if_pos z, if_pos z]
      have := g3 z
      exact ih _ g1 (by omega)
    · rw [if_neg z, if_neg z]
theorem ac_iniOk {s : ac_T} (h : ac_Ini c s) : ac_Ok s := by
  intro i hi hne
  by_cases e : i = 0 ∧ 0 < c
  · obtain ⟨rfl, e2⟩ := e
    rw [(h.2 e2).1, (h.2 e2).2]; exact ⟨ac_lo0, ac_lo0⟩
  · rw [h.1 i hi, if_neg e] at hne
    exact absurd rfl hne
theorem ac_iniMu (hc0 : 0 < c) {s : ac_T} (h : ac_Ini c s) : 1 ≤ ac_mu s 14 := by
  have e : s.1 0 = 1 := by rw [h.1 0 (by omega), if_pos ⟨rfl, hc0⟩]
  have e2 : 1 ≤ ac_m1 s 0 := by
    unfold ac_m1
    rw [e]
    unfold ac_m3
    rw [if_neg (by decide)]; omega
  have e3 : ac_mu s 1 ≤ ac_mu s 14 := by
    show ac_mu s 1 ≤ ac_mu s 1 + ac_m1 s 1 + ac_m1 s 2 + ac_m1 s 3 + ac_m1 s 4 + ac_m1 s 5 + ac_m1 s 6 + ac_m1 s 7 + ac_m1 s 8 + ac_m1 s 9 + ac_m1 s 10 + ac_m1 s 11 + ac_m1 s 12 + ac_m1 s 13
    omega
  have e4 : ac_mu s 1 = ac_m1 s 0 := Nat.zero_add _
  omega
theorem ac_itF0 (n : Nat) (s : ac_T) : ac_it (ac_F op v0 v1 p0 p1 nu 0) n s = s := by
  cases n with
  | zero => rfl
  | succ n => rfl
theorem ac_it600 (hv0 : ac_In 4 v0) (hv1 : ac_In 4 v1) (hp0 : ac_In 5 p0) (hp1 : ac_In 5 p1) (hc : c ≤ 14) {s : ac_T} (h : ac_Ini c s) :
    ac_it (ac_F op v0 v1 p0 p1 nu c) 600 s = ac_it (ac_F op v0 v1 p0 p1 nu c) 575 s := by
  rcases Nat.eq_zero_or_pos c with z | z
  · subst z; rw [ac_itF0, ac_itF0]
  · exact (ac_itEq (fun s hs => ac_FOk hv0 hv1 hp0 hp1 hc hs) 25 575 s (ac_iniOk h) (by omega)).symm
end
end
section
theorem ac_last : True := trivial
end
