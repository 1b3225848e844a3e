section
variable {c : Nat} {dg ay fo bi sd : Int32} {op v0 v1 v2 p0 p1 p2 nv va C W O : Nat → Int32}
theorem ac_ySh {x1 : Int32} : ∀ (x : Nat) (la : Nat → Int32), x ≤ 7 → ∃ la' : Nat → Int32, (∀ j, 1 ≤ j → j ≤ x → la' j = la (j - 1)) ∧ (∀ j, x < j → la' j = la j) ∧
    ∀ (post : SY → Prop) (n : Nat), wY_carryOut_88 post x1 (nI c) dg ay fo bi sd (n + 1) (nI 0) op v0 v1 v2 p0 p1 p2 nv C W O va la' → wY_carryOut_88 post x1 (nI c) dg ay fo bi sd (n + 1 + x) (nI x) op v0 v1 v2 p0 p1 p2 nv C W O va la := by
  intro x
  induction x with
  | zero => intro la _; exact ⟨la, fun j h1 h2 => absurd h1 (by omega), fun _ _ => rfl, fun _ _ h => h⟩
  | succ x ih =>
    intro la hx
    obtain ⟨la', h1, h2, h3⟩ := ih (upd la (x + 1) (la x)) (by omega)
    refine ⟨la', fun j j1 j2 => ?_, fun j hj => ?_, fun post n h => ?_⟩
    · by_cases e : j = x + 1
      · subst e
        rw [h2 _ (by omega), pk_us]; rfl
      · rw [h1 j j1 (by omega), pk_un (by omega)]
    · rw [h2 j (by omega), pk_un (by omega)]
    · refine br_f (nI_nle (by omega) (by omega)) ?_
      rw [nI_pred x, pk_m1 x, nI_clamp (by omega : x < 2 ^ 31), nI_clamp (by omega : x + 1 < 2 ^ 31)]
      exact ⟨vp_in_nI (by omega) (by omega), vp_in_nI (by omega) (by omega), nm_e (nm_e (h3 post n h))⟩
end
section
variable {c : Nat} {ch fk : Int32} {od B p : Nat} {op v0 v1 v2 p0 p1 p2 nu nv R A S sv ro C W O la : Nat → Int32} {s0 : ac_T}
theorem ac_co (hc : c ≤ 14) (hp : p < c) (hB : od ≤ B) (hBB : B < 2 ^ 30) (hnv : ∀ i, op i ≠ 7 → nv i = nu i) (hP : ac_Prg op v0 v1 v2 p0 p1 p2) (hI : ac_Ini c s0) (hE : (R, A, S) = ac_it (ac_F op v0 v1 p0 p1 nu c) 575 s0)
    (hr : ∀ j, j < 8 → j < od → ro ((od - 1 - j) % 8) = la j) :
    ∃ (u' : SX) (v' : SY), ac_Rel (B + 1) u' v' ∧ (∀ post : SX → Prop, post u' → wpX_carryOut post (nI c, 1, nI p, ch, fk, nI od, op, v0, v1, v2, p0, p1, p2, nu, R, A, S, sv, ro) (nI p)) ∧ (∀ post : SY → Prop, post v' → wpY_carryOut post (nI c, 1, nI p, fk, ch, nI od, op, v0, v1, v2, p0, p1, p2, nv, C, W, O, sv, la) (nI p)) := by
  have hP' := hP
  obtain ⟨hop, hv0, hv1, hv2, hp0, hp1, hp2⟩ := hP
  have hi : vp_in (nI p) 14 := vp_in_nI (by omega) (by omega)
  have hcl : (nI p).toNatClampNeg = p := nI_clamp (by omega)
  have iv0 : vp_in (v0 p) 4 := by rw [(ac_InN hv0 (by omega) p).2]; exact vp_in_nI (ac_InN hv0 (by omega) p).1 (by omega)
  have iv1 : vp_in (v1 p) 4 := by rw [(ac_InN hv1 (by omega) p).2]; exact vp_in_nI (ac_InN hv1 (by omega) p).1 (by omega)
  have iv2 : vp_in (v2 p) 4 := by rw [(ac_InN hv2 (by omega) p).2]; exact vp_in_nI (ac_InN hv2 (by omega) p).1 (by omega)
  have run : ∀ (po' fk' : Int32), ac_Run (B + 1) 1 po' ch fk' od po' fk' ch (nI od) ro la := fun po' fk' => ⟨fun z => absurd z ac_1ne, fun _ => ⟨rfl, by omega, hr⟩, fun _ => ⟨rfl, rfl, rfl⟩⟩
  obtain ⟨o, ho, eo⟩ := hop p
  have ho2 : o = 0 ∨ o = 1 ∨ o = 2 ∨ o = 3 ∨ o = 4 ∨ o = 5 ∨ o = 6 ∨ o = 7 := by omega
  rcases ho2 with rfl | rfl | rfl | rfl | rfl | rfl | rfl | rfl
  · have en : nv p = nu p := hnv p (by rw [eo]; decide)
    refine ⟨_, _, ⟨c, 1, nI (p + 1), ch, fk, od, op, v0, v1, v2, p0, p1, p2, nu, R, A, S, upd sv (v0 p).toNatClampNeg (nu p), ro, nI (p + 1), fk, ch, nI od, nv, C, W, O, la, s0, rfl, rfl, hc, hnv, hP', hI, hE, run _ _⟩, fun post h => ?_, fun post h => ?_⟩
    · unfold wpX_carryOut
      dsimp only
      rw [hcl]
      exact ⟨hi, nm_e ⟨hi, nm_e (nm_r (nI_1 p) ⟨hi, nm_r eo (br_f (by decide) (br_f (by decide) (br_t (by decide) ⟨hi, iv0, nm_e h⟩)))⟩)⟩⟩
    · unfold wpY_carryOut
      dsimp only
      rw [hcl, en]
      exact ⟨hi, nm_r eo (nm_r (nI_1 p) (br_t (by decide) ⟨hi, hi, iv0, nm_e h⟩))⟩
  · refine ⟨_, _, ⟨c, 1, nI (p + 1), ch, fk, od, op, v0, v1, v2, p0, p1, p2, nu, R, A, S, upd sv (v0 p).toNatClampNeg (sv (v1 p).toNatClampNeg + sv (v2 p).toNatClampNeg), ro, nI (p + 1), fk, ch, nI od, nv, C, W, O, la, s0, rfl, rfl, hc, hnv, hP', hI, hE, run _ _⟩, fun post h => ?_, fun post h => ?_⟩
    · unfold wpX_carryOut
      dsimp only
      rw [hcl]
      exact ⟨hi, nm_e ⟨hi, nm_e (nm_r (nI_1 p) ⟨hi, nm_r eo (br_f (by decide) (br_f (by decide) (br_f (by decide) (br_t (by decide) ⟨iv1, hi, iv2, iv0, nm_e h⟩))))⟩)⟩⟩
    · unfold wpY_carryOut
      dsimp only
      rw [hcl]
      exact ⟨hi, nm_r eo (nm_r (nI_1 p) (br_f (by decide) (br_t (by decide) ⟨hi, hi, iv1, hi, iv2, iv0, nm_e h⟩)))⟩
  · refine ⟨_, _, ⟨c, 1, nI (p + 1), ch, fk, od, op, v0, v1, v2, p0, p1, p2, nu, R, A, S, sv, ro, nI (p + 1), fk, ch, nI od, nv, C, W, O, la, s0, rfl, rfl, hc, hnv, hP', hI, hE, run _ _⟩, fun post h => ?_, fun post h => ?_⟩
    · unfold wpX_carryOut
      dsimp only
      rw [hcl]
      exact ⟨hi, nm_e ⟨hi, nm_e (nm_r (nI_1 p) ⟨hi, nm_r eo (br_f (by decide) (br_f (by decide) (br_f (by decide) (br_f (by decide) (br_t (by decide) h)))))⟩)⟩⟩
    · unfold wpY_carryOut
      dsimp only
      rw [hcl]
      exact ⟨hi, nm_r eo (nm_r (nI_1 p) (br_f (by decide) (br_f (by decide) (br_f (by decide) (br_f (by decide) (br_f (by decide) (br_f (by decide) (br_f (by decide) h))))))))⟩
  · obtain ⟨la', s1, s2, s3⟩ := ac_ySh (c := c) (dg := 1) (ay := nI (p + 1)) (fo := fk) (bi := ch) (sd := nI od) (op := op) (v0 := v0) (v1 := v1) (v2 := v2) (p0 := p0) (p1 := p1) (p2 := p2) (nv := nv) (va := sv) (C := C) (W := W) (O := O) (x1 := nI p) 7 la (by omega)
    have hr' : ∀ j, j < 8 → j < od + 1 → upd ro (od % 8) (sv (v1 p).toNatClampNeg) ((od + 1 - 1 - j) % 8) = upd la' 0 (sv (v1 p).toNatClampNeg) j := by
      intro j j8 jo
      by_cases e : j = 0
      · subst e
        rw [pk_us, Nat.add_sub_cancel, Nat.sub_zero, pk_us]
      · rw [pk_un e, s1 j (by omega) (by omega), pk_un (by omega), ← hr (j - 1) (by omega) (by omega)]
        exact congrArg ro (by omega)
    have e7 : nI od &&& 7 = nI (od % 8) := pk_andN (by omega) 3 (by decide)
    refine ⟨_, _, ⟨c, 1, nI (p + 1), ch, fk, od + 1, op, v0, v1, v2, p0, p1, p2, nu, R, A, S, sv, upd ro (od % 8) (sv (v1 p).toNatClampNeg), nI (p + 1), fk, ch, nI (od + 1), nv, C, W, O, upd la' 0 (sv (v1 p).toNatClampNeg), s0, rfl, rfl, hc, hnv, hP', hI, hE, ⟨fun z => absurd z ac_1ne, fun _ => ⟨rfl, by omega, hr'⟩, fun _ => ⟨rfl, rfl, rfl⟩⟩⟩, fun post h => ?_, fun post h => ?_⟩
    · unfold wpX_carryOut
      dsimp only
      rw [hcl]
      refine ⟨hi, nm_e ⟨hi, nm_e (nm_r (nI_1 p) ⟨hi, nm_r eo (br_f (by decide) (br_f (by decide) (br_f (by decide) (br_f (by decide) (br_f (by decide) (br_t (by decide) ⟨iv1, ?_⟩))))))⟩)⟩⟩
      unfold wpX_putOut
      dsimp only
      rw [e7, nI_clamp (by omega)]
      exact ⟨vp_in_nI (by omega) (by omega), nm_e (nm_r (nI_1 od) h)⟩
    · unfold wpY_carryOut
      dsimp only
      rw [hcl]
      refine ⟨hi, nm_r eo (nm_r (nI_1 p) (br_f (by decide) (br_f (by decide) (br_t (by decide) ⟨0 + 1 + 7, s3 post 0 ?_⟩))))⟩
      refine br_t (by decide) ?_
      rw [hcl]
      exact ⟨hi, iv1, nm_e (nm_r (nI_1 od) h)⟩
  · refine ⟨_, _, ⟨c, 1, nI (p + 1), ch, fk, od, op, v0, v1, v2, p0, p1, p2, nu, R, A, S, upd sv (v0 p).toNatClampNeg (sv (v1 p).toNatClampNeg), ro, nI (p + 1), fk, ch, nI od, nv, C, W, O, la, s0, rfl, rfl, hc, hnv, hP', hI, hE, run _ _⟩, fun post h => ?_, fun post h => ?_⟩
    · unfold wpX_carryOut
      dsimp only
      rw [hcl]
      exact ⟨hi, nm_e ⟨hi, nm_e (nm_r (nI_1 p) ⟨hi, nm_r eo (br_f (by decide) (br_f (by decide) (br_f (by decide) (br_f (by decide) (br_f (by decide) (br_f (by decide) (br_t (by decide) ⟨iv1, iv0, nm_e h⟩)))))))⟩)⟩⟩
    · unfold wpY_carryOut
      dsimp only
      rw [hcl]
      exact ⟨hi, nm_r eo (nm_r (nI_1 p) (br_f (by decide) (br_f (by decide) (br_f (by decide) (br_t (by decide) ⟨hi, hi, iv1, iv0, nm_e h⟩)))))⟩
  · have en : nv p = nu p := hnv p (by rw [eo]; decide)
    obtain ⟨b, lb, eb⟩ := pk_andE fk (m := 31) 5 (by decide)
    by_cases hb : bt ch b = true
    · refine ⟨_, _, ⟨c, 1, nu p, ch, fk + 1, od, op, v0, v1, v2, p0, p1, p2, nu, R, A, S, sv, ro, nu p, fk + 1, ch, nI od, nv, C, W, O, la, s0, rfl, rfl, hc, hnv, hP', hI, hE, run _ _⟩, fun post h => ?_, fun post h => ?_⟩
      · unfold wpX_carryOut
        dsimp only
        rw [hcl]
        refine ⟨hi, nm_e ⟨hi, nm_e (nm_r (nI_1 p) ⟨hi, nm_r eo (br_f (by decide) (br_f (by decide) (br_f (by decide) (br_f (by decide) (br_f (by decide) (br_f (by decide) (br_f (by decide) (br_t (by decide) ?_))))))))⟩)⟩⟩
        unfold wpX_nextChoice
        exact nm_r eb (nm_e (br_t ((ac_ub ch lb).mpr hb) (br_f ac_1ne ⟨hi, nm_e h⟩)))
      · unfold wpY_carryOut wY_carryOut_208
        dsimp only
        rw [hcl, en, eb]
        exact ⟨hi, nm_r eo (nm_r (nI_1 p) (br_f (by decide) (br_f (by decide) (br_f (by decide) (br_f (by decide) (br_t (by decide) (br_t ((ac_sb ch lb).mpr hb) ⟨hi, nm_e h⟩)))))))⟩
    · refine ⟨_, _, ⟨c, 1, nI (p + 1), ch, fk + 1, od, op, v0, v1, v2, p0, p1, p2, nu, R, A, S, sv, ro, nI (p + 1), fk + 1, ch, nI od, nv, C, W, O, la, s0, rfl, rfl, hc, hnv, hP', hI, hE, run _ _⟩, fun post h => ?_, fun post h => ?_⟩
      · unfold wpX_carryOut
        dsimp only
        rw [hcl]
        refine ⟨hi, nm_e ⟨hi, nm_e (nm_r (nI_1 p) ⟨hi, nm_r eo (br_f (by decide) (br_f (by decide) (br_f (by decide) (br_f (by decide) (br_f (by decide) (br_f (by decide) (br_f (by decide) (br_t (by decide) ?_))))))))⟩)⟩⟩
        unfold wpX_nextChoice
        exact nm_r eb (nm_e (br_f (fun z => hb ((ac_ub ch lb).mp z)) (br_t rfl (nm_r (nI_1 p) h))))
      · unfold wpY_carryOut wY_carryOut_208
        dsimp only
        rw [hcl, eb, nI_1 p]
        exact ⟨hi, nm_r eo (nm_e (br_f (by decide) (br_f (by decide) (br_f (by decide) (br_f (by decide) (br_t (by decide) (br_f (fun z => hb ((ac_sb ch lb).mp z)) (nm_e h))))))))⟩
  · have en : nv p = nu p := hnv p (by rw [eo]; decide)
    refine ⟨_, _, ⟨c, 1, nu p, ch, fk, od, op, v0, v1, v2, p0, p1, p2, nu, R, A, S, sv, ro, nu p, fk, ch, nI od, nv, C, W, O, la, s0, rfl, rfl, hc, hnv, hP', hI, hE, run _ _⟩, fun post h => ?_, fun post h => ?_⟩
    · unfold wpX_carryOut
      dsimp only
      rw [hcl]
      exact ⟨hi, nm_e ⟨hi, nm_e (nm_r (nI_1 p) ⟨hi, nm_r eo (br_f (by decide) (br_f (by decide) (br_f (by decide) (br_f (by decide) (br_f (by decide) (br_f (by decide) (br_f (by decide) (br_f (by decide) (br_t (by decide) ⟨hi, nm_e h⟩)))))))))⟩)⟩⟩
    · unfold wpY_carryOut
      dsimp only
      rw [hcl, en]
      exact ⟨hi, nm_r eo (nm_r (nI_1 p) (br_f (by decide) (br_f (by decide) (br_f (by decide) (br_f (by decide) (br_f (by decide) (br_t (by decide) ⟨hi, nm_e h⟩)))))))⟩
  · refine ⟨_, _, ⟨c, 2, nI (p + 1), ch, fk, od, op, v0, v1, v2, p0, p1, p2, nu, R, A, S, sv, ro, nI p, fk, ch, nI od, nv, C, W, O, la, s0, rfl, rfl, hc, hnv, hP', hI, hE, ⟨fun z => absurd z (by decide), fun _ => ⟨rfl, by omega, hr⟩, fun z => absurd z (by decide)⟩⟩, fun post h => ?_, fun post h => ?_⟩
    · unfold wpX_carryOut
      dsimp only
      rw [hcl]
      exact ⟨hi, nm_e ⟨hi, nm_e (nm_r (nI_1 p) ⟨hi, nm_r eo (br_f (by decide) (br_f (by decide) (br_f (by decide) (br_f (by decide) (br_f (by decide) (br_f (by decide) (br_f (by decide) (br_f (by decide) (br_f (by decide) (br_t (by decide) h))))))))))⟩)⟩⟩
    · unfold wpY_carryOut
      dsimp only
      rw [hcl]
      exact ⟨hi, nm_r eo (nm_r (nI_1 p) (br_f (by decide) (br_f (by decide) (br_f (by decide) (br_f (by decide) (br_f (by decide) (br_f (by decide) (br_t (by decide) h))))))))⟩
end
theorem ac_stp (l : Nat) (hl : l ≤ 64) : ∀ (d k B c : Nat) (st po ch fk : Int32) (od : Nat) (op v0 v1 v2 p0 p1 p2 nu R A S sv ro : Nat → Int32) (ay fo bi sd : Int32) (nv C W O la : Nat → Int32) (s0 : ac_T),
    k + d = l → B + d < 2 ^ 30 → c ≤ 14 → (∀ i, op i ≠ 7 → nv i = nu i) → ac_Prg op v0 v1 v2 p0 p1 p2 → ac_Ini c s0 → (R, A, S) = ac_it (ac_F op v0 v1 p0 p1 nu c) 575 s0 → ac_Run B st po ch fk od ay fo bi sd ro la →
    ∃ (r : Int32) (u' : SX) (v' : SY), ac_Rel (B + d) u' v' ∧ (∀ post : Int32 → SX → Prop, post r u' → wX_step_15 post (nI l) (d + 1) (nI k) (nI c) st po ch fk (nI od) op v0 v1 v2 p0 p1 p2 nu R A S sv ro) ∧ (∀ post : Int32 → SY → Prop, post r v' → wY_step_26 post (nI l) (d + 1) (nI k) (nI k) (nI c) st ay fo bi sd op v0 v1 v2 p0 p1 p2 nv C W O sv la) := by
  intro d
  induction d with
  | zero =>
    intro k B c st po ch fk od op v0 v1 v2 p0 p1 p2 nu R A S sv ro ay fo bi sd nv C W O la s0 hk hB hc hnv hP hI hE hR
    have e : nI l ≤ nI k := nI_le (by omega) (by omega)
    exact ⟨nI k, _, _, ⟨c, st, po, ch, fk, od, op, v0, v1, v2, p0, p1, p2, nu, R, A, S, sv, ro, ay, fo, bi, sd, nv, C, W, O, la, s0, rfl, rfl, hc, hnv, hP, hI, hE, hR⟩, fun post h => br_t e h, fun post h => br_t e h⟩
  | succ d ih =>
    intro k B c st po ch fk od op v0 v1 v2 p0 p1 p2 nu R A S sv ro ay fo bi sd nv C W O la s0 hk hB hc hnv hP hI hE hR
    have e : ¬ nI l ≤ nI k := nI_ge (by omega) (by omega)
    have rel : ac_Rel (B + (d + 1)) (nI c, st, po, ch, fk, nI od, op, v0, v1, v2, p0, p1, p2, nu, R, A, S, sv, ro) (nI c, st, ay, fo, bi, sd, op, v0, v1, v2, p0, p1, p2, nv, C, W, O, sv, la) := ac_up (by omega) ⟨c, st, po, ch, fk, od, op, v0, v1, v2, p0, p1, p2, nu, R, A, S, sv, ro, ay, fo, bi, sd, nv, C, W, O, la, s0, rfl, rfl, hc, hnv, hP, hI, hE, hR⟩
    by_cases hst : st = 1
    · subst hst
      obtain ⟨r1, r2, r3⟩ := hR
      obtain ⟨a1, a2, a3⟩ := r2 ac_1ne
      obtain ⟨a4, a5, a6⟩ := r3 rfl
      subst a1 a4 a5 a6
      by_cases hin : ¬ ay < 0 ∧ ¬ nI c ≤ ay
      · obtain ⟨t1, t2⟩ := ac_tgt hc hin.1 hin.2
        revert t1 t2
        generalize ay.toNatClampNeg = p
        intro t1 t2
        subst t2
        obtain ⟨u', v', hRn, hX, hY⟩ := ac_co (ch := bi) (fk := fo) (sv := sv) (C := C) (W := W) (O := O) hc t1 a2 (by omega) hnv hP hI hE a3
        obtain ⟨c', st', po', ch', fk', od', op', v0', v1', v2', p0', p1', p2', nu', R', A', S', sv', ro', ay', fo', bi', sd', nv', C', W', O', la', s0', rfl, rfl, hc', hnv', hP', hI', hE', hR'⟩ := hRn
        obtain ⟨r, u2, v2x, hR2, hX2, hY2⟩ := ih (k + 1) (B + 1) c' st' po' ch' fk' od' op' v0' v1' v2' p0' p1' p2' nu' R' A' S' sv' ro' ay' fo' bi' sd' nv' C' W' O' la' s0' (by omega) (by omega) hc' hnv' hP' hI' hE' hR'
        refine ⟨r, u2, v2x, ac_up (by omega) hR2, fun post h => ?_, fun post h => ?_⟩
        · exact br_f e (br_t rfl (ac_wPos _ (fun _ => br_f ac_1ne (hX _ (nm_r (nI_1 k) (hX2 post h)))) (fun z => absurd hin z)))
        · exact br_f e (br_t rfl (ac_yIns _ (fun _ => br_f ac_1ne (hY _ (nm_r (nI_1 k) (nm_r (nI_1 k) (hY2 post h))))) (fun z => absurd hin z)))
      · exact ⟨nI k, _, _, rel, fun post h => br_f e (br_t rfl (ac_wPos _ (fun z => absurd z hin) (fun _ => br_t rfl h))), fun post h => br_f e (br_t rfl (ac_yIns _ (fun z => absurd z hin) (fun _ => br_t rfl h)))⟩
    · exact ⟨nI k, _, _, rel, fun post h => br_f e (br_f hst h), fun post h => br_f e (br_f hst h)⟩
