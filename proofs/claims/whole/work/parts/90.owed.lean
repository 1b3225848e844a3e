def i_Rel (k : Nat) (u : SX) (v : SY) : Prop := ac_Rel (16 * k) u v
theorem i_up {k : Nat} {u : SX} {v : SY} (h : i_Rel k u v) : i_Rel (k + 4) u v := ac_up (by omega) h
theorem i_vc0 : wpX_init (fun u => wpY_init (fun v => i_Rel 0 u v)) := by
  refine ⟨0, 0, 0, 0, 0, 0, (fun _ => 0), (fun _ => 0), (fun _ => 0), (fun _ => 0), (fun _ => 0), (fun _ => 0), (fun _ => 0), (fun _ => 0), (fun _ => 0), (fun _ => 0), (fun _ => 0), (fun _ => 0), (fun _ => 0), 0, 0, 0, 0, (fun _ => 0), (fun _ => 0), (fun _ => 0), (fun _ => 0), (fun _ => 0), ((fun _ => 0), (fun _ => 0), (fun _ => 0)), rfl, rfl, by omega, fun _ _ => rfl, ⟨ac_In0 (by omega), ac_In0 (by omega), ac_In0 (by omega), ac_In0 (by omega), ac_In0 (by omega), ac_In0 (by omega), ac_In0 (by omega)⟩, ⟨fun i _ => by rw [if_neg (by omega)], fun z => absurd z (by omega)⟩, ?_, fun _ => rfl, fun z => absurd rfl z, fun z => absurd z (by decide)⟩
  rw [ac_itF0]
theorem i_vc_set {k : Nat} {u : SX} {v : SY} (I : i_Rel k u v) (hk : k + 4 ≤ 2048) (v1 : Int32) (v2 : Int32) (v3 : Int32) : wpX_set (fun r u' => wpY_set (fun r' v' => r' = r ∧ i_Rel (k + 4) u' v') v v1 v2 v3) u v1 v2 v3 := by
  have I' : ac_Rel (16 * k) u v := I
  have Iu := i_up I
  obtain ⟨c, st, po, ch, fk, od, op, x0, x1, x2, y0, y1, y2, nu, R, A, S, sv, ro, ay, fo, bi, sd, nv, C, W, O, la, s0, rfl, rfl, hc, hnv, hP, hI, hE, hR⟩ := I
  unfold wpX_set
  dsimp only
  refine ac_xVa v1 (fun a => br_f ac_1ne (ac_xPl v2 (fun b => br_f ac_1ne ?_) (fun b => br_t rfl ?_))) (fun a => br_t rfl ?_)
  · obtain ⟨j, hj, rfl⟩ := ac_nPl b
    obtain ⟨t1, t2, t3⟩ := ac_pl1 j hj
    obtain ⟨r, ⟨b1, b2, b3, b4, b5, b6, b7, b8, b9, b10, b11, b12, b13, b14, b15, b16, b17, b18, b19⟩, ⟨d1, d2, d3, d4, d5, d6, d7, d8, d9, d10, d11, d12, d13, d14, d15, d16, d17, d18, d19⟩, hRn, hX, hY⟩ := ac_app I' 0 v1 (nI j) v3 v3 (fun _ => rfl) ⟨0, by omega, rfl⟩ ⟨j, hj, t1⟩ ⟨0, by omega, t2⟩ ⟨0, by omega, t3⟩
    refine hX _ ?_
    unfold wpY_set
    dsimp only
    exact ac_yVa _ (fun _ => br_f ac_1ne (ac_yPl _ (fun _ => br_f ac_1ne (hY _ ⟨rfl, ac_up (by omega) hRn⟩)) (fun z => absurd b z))) (fun z => absurd a z)
  · unfold wpY_set
    dsimp only
    exact ac_yVa _ (fun _ => br_f ac_1ne (ac_yPl _ (fun z => absurd z b) (fun _ => br_t rfl ⟨rfl, Iu⟩))) (fun z => absurd a z)
  · unfold wpY_set
    dsimp only
    exact ac_yVa _ (fun z => absurd z a) (fun _ => br_t rfl ⟨rfl, Iu⟩)
theorem i_vc_add {k : Nat} {u : SX} {v : SY} (I : i_Rel k u v) (hk : k + 4 ≤ 2048) (v1 : Int32) (v2 : Int32) : wpX_add (fun r u' => wpY_add (fun r' v' => r' = r ∧ i_Rel (k + 4) u' v') v v1 v2) u v1 v2 := by
  have I' : ac_Rel (16 * k) u v := I
  have Iu := i_up I
  obtain ⟨c, st, po, ch, fk, od, op, x0, x1, x2, y0, y1, y2, nu, R, A, S, sv, ro, ay, fo, bi, sd, nv, C, W, O, la, s0, rfl, rfl, hc, hnv, hP, hI, hE, hR⟩ := I
  unfold wpX_add
  dsimp only
  refine br_c (fun a => ?_) (fun a => br_c (fun b => ?_) (fun b => ac_x3 v2 (fun d => br_f ac_1ne ?_) (fun d => br_t rfl ?_)))
  · exact ac_y3n _ _ (Or.inl a) ⟨rfl, Iu⟩
  · exact ac_y3n _ _ (Or.inr b) ⟨rfl, Iu⟩
  · have hd3 := d
    obtain ⟨j, hj, rfl, j1, j2⟩ := d
    obtain ⟨t1, t2, t3⟩ := ac_3e (j := j) (by omega)
    have t4 : (nI j >>> ((6 : Int32) &&& 31)) &&& 7 = nI (j / 64) := by
      rw [t3, pk_andN (by omega) 3 (by decide)]
      exact congrArg nI (by omega)
    obtain ⟨r, ⟨b1, b2, b3, b4, b5, b6, b7, b8, b9, b10, b11, b12, b13, b14, b15, b16, b17, b18, b19⟩, ⟨d1, d2, d3, d4, d5, d6, d7, d8, d9, d10, d11, d12, d13, d14, d15, d16, d17, d18, d19⟩, hRn, hX, hY⟩ := ac_app I' 1 v1 (nI j) 0 0 (fun _ => rfl) ⟨1, by omega, rfl⟩ ⟨_, j1, t1⟩ ⟨_, j2, t2⟩ ⟨_, by omega, t4⟩
    refine hX _ ?_
    exact ac_y3 _ _ a b (fun _ => hY _ ⟨rfl, ac_up (by omega) hRn⟩) (fun z => absurd hd3 z)
  · exact ac_y3 _ _ a b (fun z => absurd z d) (fun _ => ⟨rfl, Iu⟩)
theorem i_vc_move {k : Nat} {u : SX} {v : SY} (I : i_Rel k u v) (hk : k + 4 ≤ 2048) (v1 : Int32) (v2 : Int32) : wpX_move (fun r u' => wpY_move (fun r' v' => r' = r ∧ i_Rel (k + 4) u' v') v v1 v2) u v1 v2 := by
  have I' : ac_Rel (16 * k) u v := I
  have Iu := i_up I
  obtain ⟨c, st, po, ch, fk, od, op, x0, x1, x2, y0, y1, y2, nu, R, A, S, sv, ro, ay, fo, bi, sd, nv, C, W, O, la, s0, rfl, rfl, hc, hnv, hP, hI, hE, hR⟩ := I
  unfold wpX_move
  dsimp only
  refine ac_xPl v1 (fun a => br_f ac_1ne (ac_xPl v2 (fun b => br_f ac_1ne ?_) (fun b => br_t rfl ?_))) (fun a => br_t rfl ?_)
  · obtain ⟨i, hi, rfl⟩ := ac_nPl a
    obtain ⟨j, hj, rfl⟩ := ac_nPl b
    obtain ⟨t0, t1, t2, t3⟩ := ac_pl2 i hi j hj
    obtain ⟨r, ⟨b1, b2, b3, b4, b5, b6, b7, b8, b9, b10, b11, b12, b13, b14, b15, b16, b17, b18, b19⟩, ⟨d1, d2, d3, d4, d5, d6, d7, d8, d9, d10, d11, d12, d13, d14, d15, d16, d17, d18, d19⟩, hRn, hX, hY⟩ := ac_app I' 2 0 (nI i + 8 * nI j) 0 0 (fun _ => rfl) ⟨2, by omega, rfl⟩ ⟨i, hi, t1⟩ ⟨j, hj, t2⟩ ⟨0, by omega, t3⟩
    refine hX _ ?_
    unfold wpY_move
    dsimp only
    exact ac_yPl _ (fun _ => br_f ac_1ne (ac_yPl _ (fun _ => br_f ac_1ne (by rw [t0]; exact hY _ ⟨rfl, ac_up (by omega) hRn⟩)) (fun z => absurd b z))) (fun z => absurd a z)
  · unfold wpY_move
    dsimp only
    exact ac_yPl _ (fun _ => br_f ac_1ne (ac_yPl _ (fun z => absurd z b) (fun _ => br_t rfl ⟨rfl, Iu⟩))) (fun z => absurd a z)
  · unfold wpY_move
    dsimp only
    exact ac_yPl _ (fun z => absurd z a) (fun _ => br_t rfl ⟨rfl, Iu⟩)
theorem i_vc_out {k : Nat} {u : SX} {v : SY} (I : i_Rel k u v) (hk : k + 4 ≤ 2048) (v1 : Int32) (v2 : Int32) : wpX_out (fun r u' => wpY_out (fun r' v' => r' = r ∧ i_Rel (k + 4) u' v') v v1 v2) u v1 v2 := by
  have I' : ac_Rel (16 * k) u v := I
  have Iu := i_up I
  obtain ⟨c, st, po, ch, fk, od, op, x0, x1, x2, y0, y1, y2, nu, R, A, S, sv, ro, ay, fo, bi, sd, nv, C, W, O, la, s0, rfl, rfl, hc, hnv, hP, hI, hE, hR⟩ := I
  unfold wpX_out
  dsimp only
  refine ac_xVa v1 (fun a => br_f ac_1ne (ac_xPl v2 (fun b => br_f ac_1ne ?_) (fun b => br_t rfl ?_))) (fun a => br_t rfl ?_)
  · obtain ⟨i, hi, rfl⟩ := ac_nVa a
    obtain ⟨j, hj, rfl⟩ := ac_nPl b
    have t4 := ac_vl1 i hi
    obtain ⟨t0, t1, t2, t3⟩ := ac_pl3 j hj
    obtain ⟨r, ⟨b1, b2, b3, b4, b5, b6, b7, b8, b9, b10, b11, b12, b13, b14, b15, b16, b17, b18, b19⟩, ⟨d1, d2, d3, d4, d5, d6, d7, d8, d9, d10, d11, d12, d13, d14, d15, d16, d17, d18, d19⟩, hRn, hX, hY⟩ := ac_app I' 3 (4 * nI i) (8 * nI j) 0 0 (fun _ => rfl) ⟨3, by omega, rfl⟩ ⟨0, by omega, t1⟩ ⟨j, hj, t2⟩ ⟨0, by omega, t3⟩
    refine hX _ ?_
    unfold wpY_out
    dsimp only
    exact ac_yVa _ (fun _ => br_f ac_1ne (ac_yPl _ (fun _ => br_f ac_1ne (by rw [t0, t4]; exact hY _ ⟨rfl, ac_up (by omega) hRn⟩)) (fun z => absurd b z))) (fun z => absurd a z)
  · unfold wpY_out
    dsimp only
    exact ac_yVa _ (fun _ => br_f ac_1ne (ac_yPl _ (fun z => absurd z b) (fun _ => br_t rfl ⟨rfl, Iu⟩))) (fun z => absurd a z)
  · unfold wpY_out
    dsimp only
    exact ac_yVa _ (fun z => absurd z a) (fun _ => br_t rfl ⟨rfl, Iu⟩)
theorem i_vc_same {k : Nat} {u : SX} {v : SY} (I : i_Rel k u v) (hk : k + 4 ≤ 2048) (v1 : Int32) (v2 : Int32) : wpX_same (fun r u' => wpY_same (fun r' v' => r' = r ∧ i_Rel (k + 4) u' v') v v1 v2) u v1 v2 := by
  have I' : ac_Rel (16 * k) u v := I
  have Iu := i_up I
  obtain ⟨c, st, po, ch, fk, od, op, x0, x1, x2, y0, y1, y2, nu, R, A, S, sv, ro, ay, fo, bi, sd, nv, C, W, O, la, s0, rfl, rfl, hc, hnv, hP, hI, hE, hR⟩ := I
  unfold wpX_same
  dsimp only
  refine ac_xVa v1 (fun a => br_f ac_1ne (ac_xVa v2 (fun b => br_f ac_1ne ?_) (fun b => br_t rfl ?_))) (fun a => br_t rfl ?_)
  · obtain ⟨i, hi, rfl⟩ := ac_nVa a
    obtain ⟨j, hj, rfl⟩ := ac_nVa b
    have t0 := ac_vl2 i hi j hj
    obtain ⟨r, ⟨b1, b2, b3, b4, b5, b6, b7, b8, b9, b10, b11, b12, b13, b14, b15, b16, b17, b18, b19⟩, ⟨d1, d2, d3, d4, d5, d6, d7, d8, d9, d10, d11, d12, d13, d14, d15, d16, d17, d18, d19⟩, hRn, hX, hY⟩ := ac_app I' 4 (nI i + 4 * nI j) 0 0 0 (fun _ => rfl) ⟨4, by omega, rfl⟩ ⟨0, by omega, by decide⟩ ⟨0, by omega, by decide⟩ ⟨0, by omega, by decide⟩
    refine hX _ ?_
    unfold wpY_same
    dsimp only
    exact ac_yVa _ (fun _ => br_f ac_1ne (ac_yVa _ (fun _ => br_f ac_1ne (by rw [t0]; exact hY _ ⟨rfl, ac_up (by omega) hRn⟩)) (fun z => absurd b z))) (fun z => absurd a z)
  · unfold wpY_same
    dsimp only
    exact ac_yVa _ (fun _ => br_f ac_1ne (ac_yVa _ (fun z => absurd z b) (fun _ => br_t rfl ⟨rfl, Iu⟩))) (fun z => absurd a z)
  · unfold wpY_same
    dsimp only
    exact ac_yVa _ (fun z => absurd z a) (fun _ => br_t rfl ⟨rfl, Iu⟩)
theorem i_vc_flow {k : Nat} {u : SX} {v : SY} (I : i_Rel k u v) (hk : k + 4 ≤ 2048) (v1 : Int32) (v2 : Int32) : wpX_flow (fun r u' => wpY_flow (fun r' v' => r' = r ∧ i_Rel (k + 4) u' v') v v1 v2) u v1 v2 := by
  have I' : ac_Rel (16 * k) u v := I
  have Iu := i_up I
  obtain ⟨c, st, po, ch, fk, od, op, x0, x1, x2, y0, y1, y2, nu, R, A, S, sv, ro, ay, fo, bi, sd, nv, C, W, O, la, s0, rfl, rfl, hc, hnv, hP, hI, hE, hR⟩ := I
  unfold wpX_flow
  dsimp only
  by_cases a : v1 < 0
  · exact br_t a (br_t a ⟨rfl, Iu⟩)
  by_cases b : 2 < v1
  · exact br_f a (br_t b (br_f a (br_t b ⟨rfl, Iu⟩)))
  obtain ⟨j, hj, rfl⟩ := nI_of2 (M := 2) (n := 2) (by decide) a (Int32.not_lt.mp b)
  have hj2 : j = 0 ∨ j = 1 ∨ j = 2 := by omega
  rcases hj2 with rfl | rfl | rfl
  · have e : (5 : Int32) + nI 0 = 5 := by decide
    obtain ⟨r, ⟨b1, b2, b3, b4, b5, b6, b7, b8, b9, b10, b11, b12, b13, b14, b15, b16, b17, b18, b19⟩, ⟨d1, d2, d3, d4, d5, d6, d7, d8, d9, d10, d11, d12, d13, d14, d15, d16, d17, d18, d19⟩, hRn, hX, hY⟩ := ac_app I' 5 0 0 v2 v2 (fun z => rfl) ⟨5, by omega, rfl⟩ ⟨0, by omega, by decide⟩ ⟨0, by omega, by decide⟩ ⟨0, by omega, by decide⟩
    refine br_f a (br_f b (br_t (by decide) (hX _ ?_)))
    unfold wpY_flow
    dsimp only
    rw [e]
    exact br_f a (br_f b (hY _ ⟨rfl, ac_up (by omega) hRn⟩))
  · have e : (5 : Int32) + nI 1 = 6 := by decide
    obtain ⟨r, ⟨b1, b2, b3, b4, b5, b6, b7, b8, b9, b10, b11, b12, b13, b14, b15, b16, b17, b18, b19⟩, ⟨d1, d2, d3, d4, d5, d6, d7, d8, d9, d10, d11, d12, d13, d14, d15, d16, d17, d18, d19⟩, hRn, hX, hY⟩ := ac_app I' 6 0 0 v2 v2 (fun z => rfl) ⟨6, by omega, rfl⟩ ⟨0, by omega, by decide⟩ ⟨0, by omega, by decide⟩ ⟨0, by omega, by decide⟩
    refine br_f a (br_f b (br_f (by decide) (br_t (by decide) (hX _ ?_))))
    unfold wpY_flow
    dsimp only
    rw [e]
    exact br_f a (br_f b (hY _ ⟨rfl, ac_up (by omega) hRn⟩))
  · have e : (5 : Int32) + nI 2 = 7 := by decide
    obtain ⟨r, ⟨b1, b2, b3, b4, b5, b6, b7, b8, b9, b10, b11, b12, b13, b14, b15, b16, b17, b18, b19⟩, ⟨d1, d2, d3, d4, d5, d6, d7, d8, d9, d10, d11, d12, d13, d14, d15, d16, d17, d18, d19⟩, hRn, hX, hY⟩ := ac_app I' 7 0 0 0 v2 (fun z => absurd rfl z) ⟨7, by omega, rfl⟩ ⟨0, by omega, by decide⟩ ⟨0, by omega, by decide⟩ ⟨0, by omega, by decide⟩
    refine br_f a (br_f b (br_f (by decide) (br_f (by decide) (br_t (by decide) (hX _ ?_)))))
    unfold wpY_flow
    dsimp only
    rw [e]
    exact br_f a (br_f b (hY _ ⟨rfl, ac_up (by omega) hRn⟩))
theorem i_vc_drop {k : Nat} {u : SX} {v : SY} (I : i_Rel k u v) (hk : k + 4 ≤ 2048) : wpX_drop (fun r u' => wpY_drop (fun r' v' => r' = r ∧ i_Rel (k + 4) u' v') v) u := by
  obtain ⟨r, u', v', hRn, hX, hY⟩ := ac_drp (B := 16 * k) I
  exact hX _ (hY _ ⟨rfl, ac_up (by omega) hRn⟩)
theorem i_vc_length {k : Nat} {u : SX} {v : SY} (I : i_Rel k u v) (hk : k + 4 ≤ 2048) : wpX_length (fun r => wpY_length (fun r' => r' = r ∧ i_Rel (k + 4) u v) v) u := by
  have I' : ac_Rel (16 * k) u v := I
  have Iu := i_up I
  obtain ⟨c, st, po, ch, fk, od, op, x0, x1, x2, y0, y1, y2, nu, R, A, S, sv, ro, ay, fo, bi, sd, nv, C, W, O, la, s0, rfl, rfl, hc, hnv, hP, hI, hE, hR⟩ := I
  exact ⟨rfl, Iu⟩
theorem i_vc_sound {k : Nat} {u : SX} {v : SY} (I : i_Rel k u v) (hk : k + 4 ≤ 2048) : wpX_sound (fun r => wpY_sound (fun r' v' => r' = r ∧ i_Rel (k + 4) u v') v) u := by
  have I' : ac_Rel (16 * k) u v := I
  have Iu := i_up I
  obtain ⟨c, st, po, ch, fk, od, op, x0, x1, x2, y0, y1, y2, nu, R, A, S, sv, ro, ay, fo, bi, sd, nv, C, W, O, la, s0, rfl, rfl, hc, hnv, hP, hI, hE, hR⟩ := I
  have mk : ∀ C W O : Nat → Int32, i_Rel (k + 4) (nI c, st, po, ch, fk, nI od, op, x0, x1, x2, y0, y1, y2, nu, R, A, S, sv, ro) (nI c, st, ay, fo, bi, sd, op, x0, x1, x2, y0, y1, y2, nv, C, W, O, sv, la) := fun C W O => ac_up (B := 16 * k) (by omega) ⟨c, st, po, ch, fk, od, op, x0, x1, x2, y0, y1, y2, nu, R, A, S, sv, ro, ay, fo, bi, sd, nv, C, W, O, la, s0, rfl, rfl, hc, hnv, hP, hI, hE, hR⟩
  obtain ⟨hop, hv0, hv1, hv2, hp0, hp1, hp2⟩ := id hP
  refine ⟨c + 1, ac_wSo hc hv1 hp1 hv2 hp2 c 0 (c + 1) (by omega) (by omega) ?_⟩
  refine ⟨c + 1, ac_ySo hnv hc hP hI hE c 0 (c + 1) 0 C W O (by omega) (by omega) (fun C W O => ⟨?_, mk C W O⟩)⟩
  rw [decide_eq_true (rfl : (0 : Int32) = 0), Bool.true_and]
theorem i_vc_faults {k : Nat} {u : SX} {v : SY} (I : i_Rel k u v) (hk : k + 4 ≤ 2048) (v1 : Int32) : wpX_faults (fun r => wpY_faults (fun r' v' => r' = r ∧ i_Rel (k + 4) u v') v v1) u v1 := by
  have I' : ac_Rel (16 * k) u v := I
  have Iu := i_up I
  obtain ⟨c, st, po, ch, fk, od, op, x0, x1, x2, y0, y1, y2, nu, R, A, S, sv, ro, ay, fo, bi, sd, nv, C, W, O, la, s0, rfl, rfl, hc, hnv, hP, hI, hE, hR⟩ := I
  have mk : ∀ C W O : Nat → Int32, i_Rel (k + 4) (nI c, st, po, ch, fk, nI od, op, x0, x1, x2, y0, y1, y2, nu, R, A, S, sv, ro) (nI c, st, ay, fo, bi, sd, op, x0, x1, x2, y0, y1, y2, nv, C, W, O, sv, la) := fun C W O => ac_up (B := 16 * k) (by omega) ⟨c, st, po, ch, fk, od, op, x0, x1, x2, y0, y1, y2, nu, R, A, S, sv, ro, ay, fo, bi, sd, nv, C, W, O, la, s0, rfl, rfl, hc, hnv, hP, hI, hE, hR⟩
  obtain ⟨hop, hv0, hv1, hv2, hp0, hp1, hp2⟩ := id hP
  by_cases hin : ¬ v1 < 0 ∧ ¬ nI c ≤ v1
  · obtain ⟨t1, t2⟩ := ac_tgt hc hin.1 hin.2
    revert t1 t2
    generalize v1.toNatClampNeg = p
    intro t1 t2
    subst t2
    exact ac_wFa hc t1 hv1 hp1 hv2 hp2 (ac_yFa hnv hc hP hI hE t1 (fun C W O => ⟨rfl, mk C W O⟩))
  · exact ac_wFaO hin (ac_yFaO hnv hc hP hI hin (fun C W O => ⟨rfl, mk C W O⟩))
theorem i_vc_reached {k : Nat} {u : SX} {v : SY} (I : i_Rel k u v) (hk : k + 4 ≤ 2048) (v1 : Int32) : wpX_reached (fun r => wpY_reached (fun r' v' => r' = r ∧ i_Rel (k + 4) u v') v v1) u v1 := by
  have I' : ac_Rel (16 * k) u v := I
  have Iu := i_up I
  obtain ⟨c, st, po, ch, fk, od, op, x0, x1, x2, y0, y1, y2, nu, R, A, S, sv, ro, ay, fo, bi, sd, nv, C, W, O, la, s0, rfl, rfl, hc, hnv, hP, hI, hE, hR⟩ := I
  have mk : ∀ C W O : Nat → Int32, i_Rel (k + 4) (nI c, st, po, ch, fk, nI od, op, x0, x1, x2, y0, y1, y2, nu, R, A, S, sv, ro) (nI c, st, ay, fo, bi, sd, op, x0, x1, x2, y0, y1, y2, nv, C, W, O, sv, la) := fun C W O => ac_up (B := 16 * k) (by omega) ⟨c, st, po, ch, fk, od, op, x0, x1, x2, y0, y1, y2, nu, R, A, S, sv, ro, ay, fo, bi, sd, nv, C, W, O, la, s0, rfl, rfl, hc, hnv, hP, hI, hE, hR⟩
  by_cases hin : ¬ v1 < 0 ∧ ¬ nI c ≤ v1
  · obtain ⟨t1, t2⟩ := ac_tgt hc hin.1 hin.2
    revert t1 t2
    generalize v1.toNatClampNeg = p
    intro t1 t2
    subst t2
    by_cases h0 : R p = 0
    · exact ac_wRe0 hc t1 h0 (ac_yRe hnv hc hP hI hE t1 (fun C W O => ⟨if_pos h0, mk C W O⟩))
    · exact ac_wRe1 hc t1 h0 (ac_yRe hnv hc hP hI hE t1 (fun C W O => ⟨if_neg h0, mk C W O⟩))
  · exact ac_wReO hin (ac_yReO hnv hc hP hI hin (fun C W O => ⟨rfl, mk C W O⟩))
theorem i_vc_carries {k : Nat} {u : SX} {v : SY} (I : i_Rel k u v) (hk : k + 4 ≤ 2048) (v1 : Int32) (v2 : Int32) : wpX_carries (fun r => wpY_carries (fun r' v' => r' = r ∧ i_Rel (k + 4) u v') v v1 v2) u v1 v2 := by
  have I' : ac_Rel (16 * k) u v := I
  have Iu := i_up I
  obtain ⟨c, st, po, ch, fk, od, op, x0, x1, x2, y0, y1, y2, nu, R, A, S, sv, ro, ay, fo, bi, sd, nv, C, W, O, la, s0, rfl, rfl, hc, hnv, hP, hI, hE, hR⟩ := I
  have mk : ∀ C W O : Nat → Int32, i_Rel (k + 4) (nI c, st, po, ch, fk, nI od, op, x0, x1, x2, y0, y1, y2, nu, R, A, S, sv, ro) (nI c, st, ay, fo, bi, sd, op, x0, x1, x2, y0, y1, y2, nv, C, W, O, sv, la) := fun C W O => ac_up (B := 16 * k) (by omega) ⟨c, st, po, ch, fk, od, op, x0, x1, x2, y0, y1, y2, nu, R, A, S, sv, ro, ay, fo, bi, sd, nv, C, W, O, la, s0, rfl, rfl, hc, hnv, hP, hI, hE, hR⟩
  by_cases hin : ¬ v1 < 0 ∧ ¬ nI c ≤ v1
  · obtain ⟨t1, t2⟩ := ac_tgt hc hin.1 hin.2
    revert t1 t2
    generalize v1.toNatClampNeg = p
    intro t1 t2
    subst t2
    exact ac_wCa hc t1 v2 (ac_yCa hnv hc hP hI hE t1 v2 (fun C W O => ⟨rfl, mk C W O⟩))
  · exact ac_wCaO hin (ac_yCaO hnv hc hP hI hin (fun C W O => ⟨rfl, mk C W O⟩))
theorem i_vc_start {k : Nat} {u : SX} {v : SY} (I : i_Rel k u v) (hk : k + 4 ≤ 2048) (v1 : Int32) : wpX_start (fun r u' => wpY_start (fun r' v' => r' = r ∧ i_Rel (k + 4) u' v') v v1) u v1 := by
  have I' : ac_Rel (16 * k) u v := I
  have Iu := i_up I
  obtain ⟨c, st, po, ch, fk, od, op, x0, x1, x2, y0, y1, y2, nu, R, A, S, sv, ro, ay, fo, bi, sd, nv, C, W, O, la, s0, rfl, rfl, hc, hnv, hP, hI, hE, hR⟩ := I
  have mk : ∀ C W O : Nat → Int32, i_Rel (k + 4) (nI c, st, po, ch, fk, nI od, op, x0, x1, x2, y0, y1, y2, nu, R, A, S, sv, ro) (nI c, st, ay, fo, bi, sd, op, x0, x1, x2, y0, y1, y2, nv, C, W, O, sv, la) := fun C W O => ac_up (B := 16 * k) (by omega) ⟨c, st, po, ch, fk, od, op, x0, x1, x2, y0, y1, y2, nu, R, A, S, sv, ro, ay, fo, bi, sd, nv, C, W, O, la, s0, rfl, rfl, hc, hnv, hP, hI, hE, hR⟩
  obtain ⟨hop, hv0, hv1, hv2, hp0, hp1, hp2⟩ := id hP
  unfold wpX_start
  dsimp only
  refine ⟨c + 1, ac_wSo hc hv1 hp1 hv2 hp2 c 0 (c + 1) (by omega) (by omega) ?_⟩
  have hY : ∀ post : Int32 → SY → Prop, (∀ C W O : Nat → Int32, post (ac_bI (decide (0 < c) && ac_so (ac_fv op x1 x2 y1 y2 nu R A c) c 0)) (nI c, st, ay, fo, bi, sd, op, x0, x1, x2, y0, y1, y2, nv, C, W, O, sv, la)) → wpY_sound post (nI c, st, ay, fo, bi, sd, op, x0, x1, x2, y0, y1, y2, nv, C, W, O, sv, la) := by
    intro post h
    refine ⟨c + 1, ac_ySo hnv hc hP hI hE c 0 (c + 1) 0 C W O (by omega) (by omega) ?_⟩
    rw [decide_eq_true (rfl : (0 : Int32) = 0), Bool.true_and]
    exact h
  revert hY
  generalize (decide (0 < c) && ac_so (ac_fv op x1 x2 y1 y2 nu R A c) c 0) = f
  intro hY
  cases f with
  | false =>
    refine br_t rfl ?_
    unfold wpY_start
    dsimp only
    exact hY _ (fun C W O => br_t rfl ⟨rfl, mk C W O⟩)
  | true =>
    have n0 : ¬ (4 : Int32) ≤ 0 := by decide
    have n1 : ¬ (4 : Int32) ≤ 1 := by decide
    have n2 : ¬ (4 : Int32) ≤ 2 := by decide
    have n3 : ¬ (4 : Int32) ≤ 3 := by decide
    have n4 : (4 : Int32) ≤ 4 := by decide
    have i0 : vp_in (0 : Int32) 4 := vp_in_iff.mpr (by decide)
    have i1 : vp_in (1 : Int32) 4 := vp_in_iff.mpr (by decide)
    have i2 : vp_in (2 : Int32) 4 := vp_in_iff.mpr (by decide)
    have i3 : vp_in (3 : Int32) 4 := vp_in_iff.mpr (by decide)
    have a1 : (0 : Int32) + 1 = 1 := by decide
    have a2 : (1 : Int32) + 1 = 2 := by decide
    have a3 : (2 : Int32) + 1 = 3 := by decide
    have a4 : (3 : Int32) + 1 = 4 := by decide
    refine br_f ac_1ne ⟨5, br_f n0 ⟨i0, nm_e (nm_r a1 (br_f n1 ⟨i1, nm_e (nm_r a2 (br_f n2 ⟨i2, nm_e (nm_r a3 (br_f n3 ⟨i3, nm_e (nm_r a4 (br_t n4 ?_))⟩))⟩))⟩))⟩⟩
    unfold wpY_start
    dsimp only
    refine hY _ (fun C W O => br_f ac_1ne ⟨5, br_f n0 ⟨i0, nm_e (nm_r a1 (br_f n1 ⟨i1, nm_e (nm_r a2 (br_f n2 ⟨i2, nm_e (nm_r a3 (br_f n3 ⟨i3, nm_e (nm_r a4 (br_t n4 ⟨rfl, ?_⟩))⟩))⟩))⟩))⟩⟩)
    exact ⟨c, 1, 0, v1, 0, 0, op, x0, x1, x2, y0, y1, y2, nu, R, A, S, _, ro, 0, 0, v1, 0, nv, C, W, O, la, s0, rfl, rfl, hc, hnv, hP, hI, hE, fun _ => rfl, fun _ => ⟨rfl, by omega, fun j _ z => absurd z (by omega)⟩, fun _ => ⟨rfl, rfl, rfl⟩⟩
theorem i_vc_step {k : Nat} {u : SX} {v : SY} (I : i_Rel k u v) (hk : k + 4 ≤ 2048) (v1 : Int32) : wpX_step (fun r u' => wpY_step (fun r' v' => r' = r ∧ i_Rel (k + 4) u' v') v v1) u v1 := by
  have I' : ac_Rel (16 * k) u v := I
  have Iu := i_up I
  obtain ⟨c, st, po, ch, fk, od, op, x0, x1, x2, y0, y1, y2, nu, R, A, S, sv, ro, ay, fo, bi, sd, nv, C, W, O, la, s0, rfl, rfl, hc, hnv, hP, hI, hE, hR⟩ := I
  unfold wpX_step wpY_step
  dsimp only
  by_cases a : v1 ≤ 64
  · by_cases b : 0 ≤ v1
    · obtain ⟨l, hl, rfl⟩ := nI_of2 (M := 64) (n := 64) (by decide) (Int32.not_lt.mpr b) a
      obtain ⟨r, u', v', hRn, hX, hY⟩ := ac_stp l (by omega) l 0 (16 * k) c st po ch fk od op x0 x1 x2 y0 y1 y2 nu R A S sv ro ay fo bi sd nv C W O la s0 (by omega) (by omega) hc hnv hP hI hE hR
      exact br_t a ⟨l + 1, hX _ (br_t b (br_t a ⟨l + 1, hY _ ⟨rfl, ac_up (by omega) hRn⟩⟩))⟩
    · have b2 : v1 ≤ 0 := Int32.le_of_lt (Int32.not_le.mp b)
      exact br_t a ⟨1, br_t b2 (br_f b ⟨1, br_t (by decide) ⟨rfl, Iu⟩⟩)⟩
  · have b : 0 ≤ v1 := Int32.le_of_lt (Int32.lt_of_le_of_lt (by decide) (Int32.not_le.mp a))
    obtain ⟨r, u', v', hRn, hX, hY⟩ := ac_stp 64 (by omega) 64 0 (16 * k) c st po ch fk od op x0 x1 x2 y0 y1 y2 nu R A S sv ro ay fo bi sd nv C W O la s0 (by omega) (by omega) hc hnv hP hI hE hR
    exact br_f a ⟨65, hX _ (br_t b (br_f a ⟨65, hY _ ⟨rfl, ac_up (by omega) hRn⟩⟩))⟩
theorem i_vc_status {k : Nat} {u : SX} {v : SY} (I : i_Rel k u v) (hk : k + 4 ≤ 2048) : wpX_status (fun r => wpY_status (fun r' => r' = r ∧ i_Rel (k + 4) u v) v) u := by
  have I' : ac_Rel (16 * k) u v := I
  have Iu := i_up I
  obtain ⟨c, st, po, ch, fk, od, op, x0, x1, x2, y0, y1, y2, nu, R, A, S, sv, ro, ay, fo, bi, sd, nv, C, W, O, la, s0, rfl, rfl, hc, hnv, hP, hI, hE, hR⟩ := I
  exact ⟨rfl, Iu⟩
theorem i_vc_outs {k : Nat} {u : SX} {v : SY} (I : i_Rel k u v) (hk : k + 4 ≤ 2048) : wpX_outs (fun r => wpY_outs (fun r' => r' = r ∧ i_Rel (k + 4) u v) v) u := by
  have I' : ac_Rel (16 * k) u v := I
  have Iu := i_up I
  obtain ⟨c, st, po, ch, fk, od, op, x0, x1, x2, y0, y1, y2, nu, R, A, S, sv, ro, ay, fo, bi, sd, nv, C, W, O, la, s0, rfl, rfl, hc, hnv, hP, hI, hE, hR⟩ := I
  obtain ⟨r1, r2, r3⟩ := hR
  refine br_c (fun z => ⟨?_, Iu⟩) (fun z => ⟨(r2 z).1, Iu⟩)
  rw [r1 z]; rfl
theorem i_vc_lastOut {k : Nat} {u : SX} {v : SY} (I : i_Rel k u v) (hk : k + 4 ≤ 2048) (v1 : Int32) : wpX_lastOut (fun r => wpY_lastOut (fun r' => r' = r ∧ i_Rel (k + 4) u v) v v1) u v1 := by
  have I' : ac_Rel (16 * k) u v := I
  have Iu := i_up I
  obtain ⟨c, st, po, ch, fk, od, op, x0, x1, x2, y0, y1, y2, nu, R, A, S, sv, ro, ay, fo, bi, sd, nv, C, W, O, la, s0, rfl, rfl, hc, hnv, hP, hI, hE, hR⟩ := I
  obtain ⟨r1, r2, r3⟩ := hR
  by_cases a : v1 < 0
  · exact br_t a (br_c (fun _ => ⟨rfl, Iu⟩) (fun _ => br_t a ⟨rfl, Iu⟩))
  obtain ⟨j, hj, rfl⟩ := nI_of a
  by_cases b : j < 8
  · have b1 : ¬ (8 : Int32) ≤ nI j := nI_ge (b := 8) b (by omega)
    have b2 : ¬ (7 : Int32) < nI j := by
      rw [show (7 : Int32) = nI 7 from rfl, nI_ltI (by omega) hj]; omega
    by_cases z : st = 0
    · have e := r1 z
      subst e
      exact br_f a (br_f b1 (br_f (nI_nlt (by omega) hj) (br_t z ⟨rfl, Iu⟩)))
    · obtain ⟨q1, q2, q3⟩ := r2 z
      subst q1
      by_cases d : j < od
      · have e : (nI od - 1 - nI j) &&& 7 = nI ((od - 1 - j) % 8) := by
          rw [show (1 : Int32) = nI 1 from rfl, pk_sub (by omega), pk_sub (by omega)]
          exact pk_andN (by omega) 3 (by decide)
        refine br_f a (br_f b1 (br_t (nI_lt d (by omega)) ?_))
        rw [e, nI_clamp (by omega)]
        refine ⟨vp_in_nI (by omega) (by omega), br_f z (br_f a (br_f b2 (br_t (nI_lt d (by omega)) ⟨vp_in_nI b (by omega), ?_, Iu⟩)))⟩
        rw [nI_clamp (by omega)]
        exact (q3 j b d).symm
      · exact br_f a (br_f b1 (br_f (nI_nlt (by omega) hj) (br_f z (br_f a (br_f b2 (br_f (nI_nlt (by omega) hj) ⟨rfl, Iu⟩))))))
  · have b1 : (8 : Int32) ≤ nI j := nI_le (a := 8) (by omega) hj
    have b2 : (7 : Int32) < nI j := nI_lt (a := 7) (by omega) hj
    exact br_f a (br_t b1 (br_c (fun _ => ⟨rfl, Iu⟩) (fun _ => br_f a (br_t b2 ⟨rfl, Iu⟩))))
