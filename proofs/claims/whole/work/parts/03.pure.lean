abbrev ac_T : Type := (Nat → Int32) × (Nat → Int32) × (Nat → Int32)
abbrev ac_n (f : Nat → Int32) (i : Nat) : Nat := (f i).toNatClampNeg
def ac_bI (f : Bool) : Int32 := if f then 1 else 0
def ac_In (N : Nat) (f : Nat → Int32) : Prop := ∀ i, ∃ j, j < N ∧ f i = nI j
theorem ac_InU {N : Nat} {f : Nat → Int32} (h : ac_In N f) {k : Nat} {x : Int32} {j : Nat} (hj : j < N) (e : x = nI j) : ac_In N (upd f k x) := by
  intro i
  by_cases z : i = k
  · exact ⟨j, hj, by rw [z, pk_us, e]⟩
  · rw [pk_un z]; exact h i
theorem ac_In0 {N : Nat} (h : 0 < N) : ac_In N (fun _ => 0) := fun _ => ⟨0, h, rfl⟩
theorem ac_InN {N : Nat} {f : Nat → Int32} (h : ac_In N f) (hN : N < 2 ^ 31) (i : Nat) : ac_n f i < N ∧ f i = nI (ac_n f i) := by
  obtain ⟨j, hj, e⟩ := h i
  have e2 : ac_n f i = j := by unfold ac_n; rw [e, nI_clamp (by omega)]
  rw [e2]; exact ⟨hj, e⟩
/-- a position is told what is carried on a way to it -/
def ac_arr (s : ac_T) (q : Nat) (a b : Int32) : ac_T × Bool :=
  if s.1 q = 0 then ((upd s.1 q 1, upd s.2.1 q a, upd s.2.2 q b), true)
  else ((s.1, upd s.2.1 q (s.2.1 q &&& a), upd s.2.2 q (s.2.2 q ||| b)), decide (¬ (s.2.1 q &&& a = s.2.1 q ∧ s.2.2 q ||| b = s.2.2 q)))
section
variable (op v0 v1 p0 p1 nu : Nat → Int32) (c : Nat)
def ac_af (p : Nat) (x : Int32) : Int32 := ac_xa (op p) (ac_n p0 p) (ac_n v0 p) (ac_n p1 p) (ac_n v1 p) x
def ac_g1 (p : Nat) (s : ac_T) : ac_T × Bool :=
  if op p ≠ 6 ∧ op p ≠ 7 ∧ p + 1 < c then ac_arr s (p + 1) (ac_af op v0 v1 p0 p1 p (s.2.1 p)) (ac_af op v0 v1 p0 p1 p (s.2.2 p)) else (s, false)
def ac_g2 (p : Nat) (a b : Int32) (s : ac_T) : ac_T × Bool :=
  if (op p = 5 ∨ op p = 6) ∧ ¬ nu p < 0 ∧ ¬ nI c ≤ nu p then ac_arr s (nu p).toNatClampNeg a b else (s, false)
def ac_go (p : Nat) (s : ac_T) : ac_T × Bool :=
  ((ac_g2 op nu c p (ac_af op v0 v1 p0 p1 p (s.2.1 p)) (ac_af op v0 v1 p0 p1 p (s.2.2 p)) (ac_g1 op v0 v1 p0 p1 c p s).1).1,
   (ac_g1 op v0 v1 p0 p1 c p s).2 || (ac_g2 op nu c p (ac_af op v0 v1 p0 p1 p (s.2.1 p)) (ac_af op v0 v1 p0 p1 p (s.2.2 p)) (ac_g1 op v0 v1 p0 p1 c p s).1).2)
def ac_ps : Nat → Nat → ac_T → Bool → ac_T × Bool
  | 0, _, s, f => (s, f)
  | d + 1, p, s, f => if s.1 p = 0 then ac_ps d (p + 1) s f else ac_ps d (p + 1) (ac_go op v0 v1 p0 p1 nu c p s).1 (f || (ac_go op v0 v1 p0 p1 nu c p s).2)
def ac_F (s : ac_T) : ac_T × Bool := ac_ps op v0 v1 p0 p1 nu c c 0 s false
end
def ac_it (F : ac_T → ac_T × Bool) : Nat → ac_T → ac_T
  | 0, s => s
  | n + 1, s => if (F s).2 = true then ac_it F n (F s).1 else (F s).1
/-- the start of all walks -/
def ac_Ini (c : Nat) (s : ac_T) : Prop := (∀ i, i < 14 → s.1 i = if i = 0 ∧ 0 < c then 1 else 0) ∧ (0 < c → s.2.1 0 = 0 ∧ s.2.2 0 = 0)
/-! the measure -/
def ac_cn (g : Nat → Bool) : Nat → Nat
  | 0 => 0
  | n + 1 => ac_cn g n + (if g n = true then 1 else 0)
theorem ac_cn_le (g : Nat → Bool) : ∀ n, ac_cn g n ≤ n := by
  intro n
  induction n with
  | zero => exact Nat.le_refl _
  | succ n ih => unfold ac_cn; split <;> omega
theorem ac_cn_mo {g h : Nat → Bool} : ∀ n, (∀ b, b < n → g b = true → h b = true) → ac_cn g n ≤ ac_cn h n := by
  intro n
  induction n with
  | zero => intro _; exact Nat.le_refl _
  | succ n ih =>
    intro H
    have i1 := ih (fun b hb => H b (by omega))
    have i2 := H n (by omega)
    unfold ac_cn
    by_cases e : g n = true
    · rw [if_pos e, if_pos (i2 e)]; omega
    · rw [if_neg e]; omega
theorem ac_cn_st {g h : Nat → Bool} : ∀ n, (∀ b, b < n → g b = true → h b = true) → (∃ b, b < n ∧ g b = false ∧ h b = true) → ac_cn g n + 1 ≤ ac_cn h n := by
  intro n
  induction n with
  | zero => intro _ ⟨b, hb, _⟩; omega
  | succ n ih =>
    intro H ⟨b, hb, hg, hh⟩
    by_cases e : b = n
    · subst e
      have i1 := ac_cn_mo b (fun x hx => H x (by omega))
      unfold ac_cn
      rw [hg, hh]; simp; omega
    · have i1 := ih (fun x hx => H x (by omega)) ⟨b, by omega, hg, hh⟩
      have i2 := H n (by omega)
      unfold ac_cn
      by_cases e : g n = true
      · rw [if_pos e, if_pos (i2 e)]; omega
      · rw [if_neg e]; omega
def ac_m3 (r x y : Int32) : Nat := if r = 0 then 0 else 1 + ac_cn (fun b => !bt x b) 20 + ac_cn (bt y) 20
def ac_m1 (s : ac_T) (i : Nat) : Nat := ac_m3 (s.1 i) (s.2.1 i) (s.2.2 i)
def ac_mu (s : ac_T) : Nat → Nat
  | 0 => 0
  | n + 1 => ac_mu s n + ac_m1 s n
theorem ac_mu_le (s : ac_T) : ∀ n, ac_mu s n ≤ 41 * n := by
  intro n
  induction n with
  | zero => exact Nat.le_refl _
  | succ n ih =>
    have i1 := ac_cn_le (fun b => !bt (s.2.1 n) b) 20
    have i2 := ac_cn_le (bt (s.2.2 n)) 20
    have i3 : ac_m1 s n ≤ 41 := by unfold ac_m1 ac_m3; split <;> omega
    unfold ac_mu; omega
theorem ac_mu_mo {s t : ac_T} : ∀ n, (∀ i, i < n → ac_m1 s i ≤ ac_m1 t i) → ac_mu s n ≤ ac_mu t n := by
  intro n
  induction n with
  | zero => intro _; exact Nat.le_refl _
  | succ n ih =>
    intro H
    have i1 := ih (fun i hi => H i (by omega))
    have i2 := H n (by omega)
    unfold ac_mu; omega
theorem ac_mu_st {s t : ac_T} {q : Nat} (hq : ac_m1 s q + 1 ≤ ac_m1 t q) : ∀ n, (∀ i, i < n → ac_m1 s i ≤ ac_m1 t i) → q < n → ac_mu s n + 1 ≤ ac_mu t n := by
  intro n
  induction n with
  | zero => intro _ h; omega
  | succ n ih =>
    intro H h
    have i2 := H n (by omega)
    by_cases e : q = n
    · subst e
      have i1 := ac_mu_mo q (fun i hi => H i (by omega))
      unfold ac_mu; omega
    · have i1 := ih (fun i hi => H i (by omega)) (by omega)
      unfold ac_mu; omega
def ac_Ok (s : ac_T) : Prop := ∀ i, i < 14 → s.1 i ≠ 0 → ac_lo (s.2.1 i) ∧ ac_lo (s.2.2 i)
def ac_Gr (s : ac_T) (r : ac_T × Bool) : Prop := ac_Ok r.1 ∧ ac_mu s 14 ≤ ac_mu r.1 14 ∧ (r.2 = true → ac_mu s 14 + 1 ≤ ac_mu r.1 14)
theorem ac_updSelf (f : Nat → Int32) (q : Nat) : upd f q (f q) = f := by
  funext j
  by_cases e : j = q
  · rw [e, pk_us]
  · rw [pk_un e]
theorem ac_bex {x y : Int32} (hx : ac_lo x) (hy : ac_lo y) (h : x ≠ y) : ∃ b, b < 20 ∧ bt x b ≠ bt y b := by
  apply Classical.byContradiction
  intro z
  apply h
  apply b_ext
  intro b _
  rcases Nat.lt_or_ge b 20 with h2 | h2
  · apply Classical.byContradiction
    intro z2
    exact z ⟨b, h2, z2⟩
  · rw [hx b h2, hy b h2]
theorem ac_arrOk {s : ac_T} (hs : ac_Ok s) {q : Nat} (hq : q < 14) {a b : Int32} (ha : ac_lo a) (hb : ac_lo b) : ac_Gr s (ac_arr s q a b) := by
  unfold ac_arr
  by_cases h0 : s.1 q = 0
  · rw [if_pos h0]
    have hm : ∀ i, i ≠ q → ac_m1 (upd s.1 q 1, upd s.2.1 q a, upd s.2.2 q b) i = ac_m1 s i := by
      intro i hi
      show ac_m3 (upd s.1 q 1 i) (upd s.2.1 q a i) (upd s.2.2 q b i) = ac_m3 (s.1 i) (s.2.1 i) (s.2.2 i)
      rw [pk_un hi, pk_un hi, pk_un hi]
    have h1 : ac_m1 s q = 0 := by unfold ac_m1 ac_m3; rw [if_pos h0]
    have h2 : 1 ≤ ac_m1 (upd s.1 q 1, upd s.2.1 q a, upd s.2.2 q b) q := by
      show 1 ≤ ac_m3 (upd s.1 q 1 q) (upd s.2.1 q a q) (upd s.2.2 q b q)
      rw [pk_us]
      unfold ac_m3
      rw [if_neg (by decide)]; omega
    have h3 : ∀ i, i < 14 → ac_m1 s i ≤ ac_m1 (upd s.1 q 1, upd s.2.1 q a, upd s.2.2 q b) i := by
      intro i _
      by_cases e : i = q
      · subst e; omega
      · rw [hm i e]; exact Nat.le_refl _
    refine ⟨?_, ac_mu_mo 14 h3, fun _ => ac_mu_st (q := q) (by rw [h1]; exact h2) 14 h3 hq⟩
    intro i hi hne
    dsimp only at hne ⊢
    by_cases e : i = q
    · subst e; rw [pk_us, pk_us]; exact ⟨ha, hb⟩
    · rw [pk_un e] at hne
      rw [pk_un e, pk_un e]; exact hs i hi hne
  · rw [if_neg h0]
    obtain ⟨l1, l2⟩ := hs q hq h0
    have hm : ∀ i, i ≠ q → ac_m1 (s.1, upd s.2.1 q (s.2.1 q &&& a), upd s.2.2 q (s.2.2 q ||| b)) i = ac_m1 s i := by
      intro i hi
      show ac_m3 (s.1 i) (upd s.2.1 q (s.2.1 q &&& a) i) (upd s.2.2 q (s.2.2 q ||| b) i) = ac_m3 (s.1 i) (s.2.1 i) (s.2.2 i)
      rw [pk_un hi, pk_un hi]
    have c1 : ac_cn (fun b => !bt (s.2.1 q) b) 20 ≤ ac_cn (fun b => !bt (s.2.1 q &&& a) b) 20 := by
      apply ac_cn_mo
      intro x _
      rw [b_and]; cases bt (s.2.1 q) x <;> simp
    have c2 : ac_cn (bt (s.2.2 q)) 20 ≤ ac_cn (bt (s.2.2 q ||| b)) 20 := by
      apply ac_cn_mo
      intro x _
      rw [b_or]; cases bt (s.2.2 q) x <;> simp
    have e1 : ac_m1 s q = 1 + ac_cn (fun b => !bt (s.2.1 q) b) 20 + ac_cn (bt (s.2.2 q)) 20 := by unfold ac_m1 ac_m3; rw [if_neg h0]
    have e2 : ac_m1 (s.1, upd s.2.1 q (s.2.1 q &&& a), upd s.2.2 q (s.2.2 q ||| b)) q = 1 + ac_cn (fun x => !bt (s.2.1 q &&& a) x) 20 + ac_cn (bt (s.2.2 q ||| b)) 20 := by
      show ac_m3 (s.1 q) (upd s.2.1 q (s.2.1 q &&& a) q) (upd s.2.2 q (s.2.2 q ||| b) q) = _
      rw [pk_us, pk_us]
      unfold ac_m3
      rw [if_neg h0]
    have h3 : ∀ i, i < 14 → ac_m1 s i ≤ ac_m1 (s.1, upd s.2.1 q (s.2.1 q &&& a), upd s.2.2 q (s.2.2 q ||| b)) i := by
      intro i _
      by_cases e : i = q
      · subst e; omega
      · rw [hm i e]; exact Nat.le_refl _
    refine ⟨?_, ac_mu_mo 14 h3, fun hf => ac_mu_st (q := q) ?_ 14 h3 hq⟩
    · clear e1 e2 h3
      intro i hi hne
      dsimp only at hne ⊢
      by_cases e : i = q
      · subst e; rw [pk_us, pk_us]; exact ⟨ac_loA l1, ac_loO l2 hb⟩
      · rw [pk_un e, pk_un e]; exact hs i hi hne
    · dsimp only at hf
      show ac_m1 s q + 1 ≤ ac_m1 (s.1, upd s.2.1 q (s.2.1 q &&& a), upd s.2.2 q (s.2.2 q ||| b)) q
      have hf2 := of_decide_eq_true hf
      by_cases z : s.2.1 q &&& a = s.2.1 q
      · have z2 : ¬ s.2.2 q ||| b = s.2.2 q := fun y => hf2 ⟨z, y⟩
        obtain ⟨x, hx, hne⟩ := ac_bex (ac_loO l2 hb) l2 z2
        have := ac_cn_st (g := bt (s.2.2 q)) (h := bt (s.2.2 q ||| b)) 20 (by
          intro x _
          rw [b_or]; cases bt (s.2.2 q) x <;> simp) ⟨x, hx, by
            rw [b_or] at hne
            rw [b_or]
            revert hne
            cases bt (s.2.2 q) x <;> cases bt b x <;> simp⟩
        omega
      · obtain ⟨x, hx, hne⟩ := ac_bex (ac_loA l1) l1 z
        have := ac_cn_st (g := fun b => !bt (s.2.1 q) b) (h := fun b => !bt (s.2.1 q &&& a) b) 20 (by
          intro x _
          rw [b_and]; cases bt (s.2.1 q) x <;> simp) ⟨x, hx, by
            rw [b_and] at hne
            rw [b_and]
            revert hne
            cases bt (s.2.1 q) x <;> cases bt a x <;> simp⟩
        omega
theorem ac_arrNe {s : ac_T} {q : Nat} {a b : Int32} {p : Nat} (h : p ≠ q) : (ac_arr s q a b).1.1 p = s.1 p ∧ (ac_arr s q a b).1.2.1 p = s.2.1 p ∧ (ac_arr s q a b).1.2.2 p = s.2.2 p := by
  unfold ac_arr
  split
  · exact ⟨pk_un h, pk_un h, pk_un h⟩
  · exact ⟨rfl, pk_un h, pk_un h⟩
section
variable {op v0 v1 p0 p1 nu : Nat → Int32} {c : Nat}
theorem ac_afl (hv0 : ac_In 4 v0) (hv1 : ac_In 4 v1) (hp0 : ac_In 5 p0) (hp1 : ac_In 5 p1) {p : Nat} {x : Int32} (hx : ac_lo x) : ac_lo (ac_af op v0 v1 p0 p1 p x) :=
  ac_xal (ac_InN hp0 (by omega) p).1 (ac_InN hv0 (by omega) p).1 (ac_InN hp1 (by omega) p).1 (ac_InN hv1 (by omega) p).1 hx
theorem ac_tgt {x : Int32} (hc : c ≤ 14) (h0 : ¬ x < 0) (h1 : ¬ nI c ≤ x) : x.toNatClampNeg < c ∧ x = nI x.toNatClampNeg := by
  obtain ⟨j, hj, rfl⟩ := nI_of h0
  rw [nI_leI (by omega) hj] at h1
  rw [nI_clamp hj]
  exact ⟨by omega, rfl⟩
theorem ac_goOk (hv0 : ac_In 4 v0) (hv1 : ac_In 4 v1) (hp0 : ac_In 5 p0) (hp1 : ac_In 5 p1) (hc : c ≤ 14) {s : ac_T} (hs : ac_Ok s) {p : Nat} (hp : p < c) (hR : s.1 p ≠ 0) : ac_Gr s (ac_go op v0 v1 p0 p1 nu c p s) := by
  have ha : ac_lo (ac_af op v0 v1 p0 p1 p (s.2.1 p)) := ac_afl hv0 hv1 hp0 hp1 (hs p (by omega) hR).1
  have hb : ac_lo (ac_af op v0 v1 p0 p1 p (s.2.2 p)) := ac_afl hv0 hv1 hp0 hp1 (hs p (by omega) hR).2
  have h1 : ac_Gr s (ac_g1 op v0 v1 p0 p1 c p s) := by
    unfold ac_g1
    by_cases h : op p ≠ 6 ∧ op p ≠ 7 ∧ p + 1 < c
    · rw [if_pos h]; exact ac_arrOk hs (by omega) ha hb
    · rw [if_neg h]; exact ⟨hs, Nat.le_refl _, fun z => nomatch z⟩
  have h2 : ac_Gr (ac_g1 op v0 v1 p0 p1 c p s).1 (ac_g2 op nu c p (ac_af op v0 v1 p0 p1 p (s.2.1 p)) (ac_af op v0 v1 p0 p1 p (s.2.2 p)) (ac_g1 op v0 v1 p0 p1 c p s).1) := by
    unfold ac_g2
    by_cases h : (op p = 5 ∨ op p = 6) ∧ ¬ nu p < 0 ∧ ¬ nI c ≤ nu p
    · rw [if_pos h]
      have := ac_tgt hc h.2.1 h.2.2
      exact ac_arrOk h1.1 (by omega) ha hb
    · rw [if_neg h]; exact ⟨h1.1, Nat.le_refl _, fun z => nomatch z⟩
  unfold ac_go
  refine ⟨h2.1, Nat.le_trans h1.2.1 h2.2.1, ?_⟩
  dsimp only
  intro hf
  rw [Bool.or_eq_true] at hf
  rcases hf with hf | hf
  · have := h1.2.2 hf; have := h2.2.1; omega
  · have := h2.2.2 hf; have := h1.2.1; omega
theorem ac_psOk (hv0 : ac_In 4 v0) (hv1 : ac_In 4 v1) (hp0 : ac_In 5 p0) (hp1 : ac_In 5 p1) (hc : c ≤ 14) : ∀ (d p : Nat) (s : ac_T) (f : Bool), p + d = c → ac_Ok s →
    ac_Ok (ac_ps op v0 v1 p0 p1 nu c d p s f).1 ∧ ac_mu s 14 ≤ ac_mu (ac_ps op v0 v1 p0 p1 nu c d p s f).1 14 ∧ ((ac_ps op v0 v1 p0 p1 nu c d p s f).2 = true → f = true ∨ ac_mu s 14 + 1 ≤ ac_mu (ac_ps op v0 v1 p0 p1 nu c d p s f).1 14) := by
  intro d
  induction d with
  | zero => intro p s f _ hs; exact ⟨hs, Nat.le_refl _, fun z => Or.inl z⟩
  | succ d ih =>
    intro p s f hd hs
    unfold ac_ps
    by_cases h : s.1 p = 0
    · rw [if_pos h]; exact ih (p + 1) s f (by omega) hs
    · rw [if_neg h]
      have g := ac_goOk (op := op) (nu := nu) hv0 hv1 hp0 hp1 hc hs (p := p) (by omega) h
      obtain ⟨i1, i2, i3⟩ := ih (p + 1) (ac_go op v0 v1 p0 p1 nu c p s).1 (f || (ac_go op v0 v1 p0 p1 nu c p s).2) (by omega) g.1
      refine ⟨i1, Nat.le_trans g.2.1 i2, fun hf => ?_⟩
      rcases i3 hf with z | z
      · rw [Bool.or_eq_true] at z
        rcases z with z | z
        · exact Or.inl z
        · have := g.2.2 z; exact Or.inr (by omega)
      · have := g.2.1; exact Or.inr (by omega)
theorem ac_FOk (hv0 : ac_In 4 v0) (hv1 : ac_In 4 v1) (hp0 : ac_In 5 p0) (hp1 : ac_In 5 p1) (hc : c ≤ 14) {s : ac_T} (hs : ac_Ok s) : ac_Gr s (ac_F op v0 v1 p0 p1 nu c s) := by
  obtain ⟨h1, h2, h3⟩ := ac_psOk (op := op) (nu := nu) hv0 hv1 hp0 hp1 hc c 0 s false (by omega) hs
  refine ⟨h1, h2, fun hf => ?_⟩
  rcases h3 hf with z | z
  · exact nomatch z
  · exact z
theorem ac_itEq {F : ac_T → ac_T × Bool} (hF : ∀ s, ac_Ok s → ac_Gr s (F s)) (m : Nat) : ∀ (n : Nat) (s : ac_T), ac_Ok s → 575 ≤ n + ac_mu s 14 → ac_it F n s = ac_it F (n + m) s := by
  intro n
  induction n with
  | zero => intro s _ h; have := ac_mu_le s 14; omega
  | succ n ih =>
    intro s hs h
    rw [Nat.add_right_comm]
    unfold ac_it
    obtain ⟨g1, g2, g3⟩ := hF s hs
    by_cases z : (F s).2 = true
    · rw [if_pos z, if_pos z]
      have := g3 z
      exact ih _ g1 (by omega)
    · rw [if_neg z, if_neg z]
theorem ac_iniOk {s : ac_T} (h : ac_Ini c s) : ac_Ok s := by
  intro i hi hne
  by_cases e : i = 0 ∧ 0 < c
  · obtain ⟨rfl, e2⟩ := e
    rw [(h.2 e2).1, (h.2 e2).2]; exact ⟨ac_lo0, ac_lo0⟩
  · rw [h.1 i hi, if_neg e] at hne
    exact absurd rfl hne
theorem ac_iniMu (hc0 : 0 < c) {s : ac_T} (h : ac_Ini c s) : 1 ≤ ac_mu s 14 := by
  have e : s.1 0 = 1 := by rw [h.1 0 (by omega), if_pos ⟨rfl, hc0⟩]
  have e2 : 1 ≤ ac_m1 s 0 := by
    unfold ac_m1
    rw [e]
    unfold ac_m3
    rw [if_neg (by decide)]; omega
  have e3 : ac_mu s 1 ≤ ac_mu s 14 := by
    show ac_mu s 1 ≤ ac_mu s 1 + ac_m1 s 1 + ac_m1 s 2 + ac_m1 s 3 + ac_m1 s 4 + ac_m1 s 5 + ac_m1 s 6 + ac_m1 s 7 + ac_m1 s 8 + ac_m1 s 9 + ac_m1 s 10 + ac_m1 s 11 + ac_m1 s 12 + ac_m1 s 13
    omega
  have e4 : ac_mu s 1 = ac_m1 s 0 := Nat.zero_add _
  omega
theorem ac_itF0 (n : Nat) (s : ac_T) : ac_it (ac_F op v0 v1 p0 p1 nu 0) n s = s := by
  cases n with
  | zero => rfl
  | succ n => rfl
theorem ac_it600 (hv0 : ac_In 4 v0) (hv1 : ac_In 4 v1) (hp0 : ac_In 5 p0) (hp1 : ac_In 5 p1) (hc : c ≤ 14) {s : ac_T} (h : ac_Ini c s) :
    ac_it (ac_F op v0 v1 p0 p1 nu c) 600 s = ac_it (ac_F op v0 v1 p0 p1 nu c) 575 s := by
  rcases Nat.eq_zero_or_pos c with z | z
  · subst z; rw [ac_itF0, ac_itF0]
  · exact (ac_itEq (fun s hs => ac_FOk hv0 hv1 hp0 hp1 hc hs) 25 575 s (ac_iniOk h) (by omega)).symm
end
