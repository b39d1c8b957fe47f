theorem hr_up {k D C V SN U G c0 c1 c2 : Nat} {sy an so sk sb : Int32} {xo xk xb xd xv xc yo yk yb yd yv yc : Nat → Int32}
    (h : hr_S k D C V SN U G c0 c1 c2 sy an so sk sb xo xk xb xd xv xc yo yk yb yd yv yc) : hr_S (k + 4) D C V SN U G c0 c1 c2 sy an so sk sb xo xk xb xd xv xc yo yk yb yd yv yc :=
  ⟨by have := h.1; omega, h.2⟩
theorem i_up {k : Nat} {u : SX} {v : SY} (h : i_Rel k u v) : i_Rel (k + 4) u v := by
  obtain ⟨D, C, V, SN, U, G, c0, c1, c2, sy, an, so, sk, sb, xo, xk, xb, xd, xv, xc, yo, yk, yb, yd, yv, yc, ss, fp, rfl, rfl, h⟩ := h
  exact hr_mk (hr_up h)
theorem i_vc0 : wpX_init (fun u => wpY_init (fun v => i_Rel 0 u v)) := by
  unfold wpX_init wpY_init
  refine hr_mk (D := 0) (C := 0) (V := 0) (SN := 0) (U := 0) (G := 0) (c0 := 0) (c1 := 0) (c2 := 0) ⟨by omega, by omega, by omega, fun _ _ => rfl, fun _ _ => rfl, fun _ _ => rfl, fun _ _ => rfl, fun _ _ => rfl, rfl, rfl, rfl, rfl, rfl, ?_⟩
  refine ⟨by omega, ⟨by omega, by omega, by omega, by omega, by omega, fun z => absurd rfl z, ?_, ?_, ?_, ?_, ?_, ?_, ?_⟩, ⟨by omega, ?_, ?_⟩, fun _ => ⟨rfl, ?_⟩⟩
  · intro i h1 h2; omega
  · intro i h1 h2; omega
  · intro i j h1 h2; omega
  · intro i j h1 h2; omega
  · intro i j h1; omega
  · intro m h1 h2; omega
  · intro i m h1; omega
  · intro i h1; omega
  · intro i h1 h2; omega
  · intro i h1; omega
theorem hw_vis {D c i : Nat} {b d : Nat → Int32} (hD : D < 1000) (h : hp_Rg 0 c (D + 1) b d) (hi : i < c) : hb_vis b d (nI (D + 1)) i = true ↔ (d i).toInt = 0 := by
  have h := h i (by omega) (by omega)
  have e : (nI (D + 1)).toInt = ((D + 1 : Nat) : Int) := nI_toInt (by omega)
  unfold hb_vis
  rw [decide_eq_true_iff, hb_lt, hb_le, hb_eq, hb_0, e]
  omega
theorem hw_pv {c V : Nat} (hV : V < 2) {xo xk xb xd yo yk yb yd : Nat → Int32} (hc : c ≤ 100) (h1 : hb_Ag xo yo) (h2 : hb_Ag xk yk) (h3 : hb_Ag xb yb) (h4 : hb_Ag xd yd) (x y t : Int32) :
    hb_sc (hb_pv xo xk xb xd x y t) c (100 * V) = hb_sc (hb_pv yo yk yb yd x y t) c (100 * V) := by
  refine hb_sc_congr (fun l g1 g2 => ?_)
  unfold hb_pv hb_vis
  rw [h1 l (by omega), h2 l (by omega), h3 l (by omega), h4 l (by omega)]
theorem hx_endv {ld ch av sn mu sy sg an so sk sb : Int32} {xo xk xb xd xv xc ss fp : Nat → Int32} {c : Nat} (hc : xc 0 = nI c) (hl : c ≤ 100) (x y w : Int32) {post : Int32 → SX → Prop}
    (h0 : hb_sc (hb_pv xo xk xb xd x y w) c 0 = none → post 0 (ld, ch, av, sn, mu, sy, sg, an, so, sk, sb, xo, xk, xb, xd, xv, xc, ss, fp))
    (h1 : ∀ e, hb_sc (hb_pv xo xk xb xd x y w) c 0 = some e → post 1 (ld, ch, av, sn, mu, sy, sg, an, so, sk, sb, xo, xk, xb, (upd xd e w), xv, xc, ss, fp)) : wpX_endVisible post (ld, ch, av, sn, mu, sy, sg, an, so, sk, sb, xo, xk, xb, xd, xv, xc, ss, fp) x y w := by
  unfold wpX_endVisible
  dsimp only
  refine hx_seen (V := 0) (by omega) hc hl _ _ _ ?_
  rw [show 100 * 0 = 0 from rfl]
  cases hr : hb_sc (hb_pv xo xk xb xd x y w) c 0 with
  | none => exact br_t rfl (h0 hr)
  | some e =>
    have he := hb_sc_some hr
    refine br_f (hb_n1 (by omega)) ⟨vp_in_nI (by omega) (by omega), ?_⟩
    rw [show hb_o (some e) = nI e from rfl, hb_cl (j := e) (by omega)]
    exact nm_e (h1 e hr)
theorem i_vc_remove {k : Nat} {u : SX} {v : SY} (I : i_Rel k u v) (hk : k + 4 ≤ 2048) (v1 : Int32) (v2 : Int32) : wpX_remove (fun r u' => wpY_remove (fun r' v' => r' = r ∧ i_Rel (k + 4) u' v') v v1 v2) u v1 v2 := by
  obtain ⟨D, C, V, SN, U, G, c0, c1, c2, sy, an, so, sk, sb, xo, xk, xb, xd, xv, xc, yo, yk, yb, yd, yv, yc, ss, fp, rfl, rfl, h⟩ := I
  have h' := hr_up h
  obtain ⟨w1, w2, w3, w4, w5, w6, w7, w8, w9, w10, w11, w12, w13, hI⟩ := h
  have hJ := hI.2.1
  have hC := hI.1
  have hc0 := hJ.1
  have hRg := hJ.2.2.2.2.2.2.1
  have hD : D < 1000 := by omega
  have hpv := hw_pv (V := 0) (by omega) hc0 w4 w5 w6 w7 v1 v2 (nI (D + 1))
  rw [show 100 * 0 = 0 from rfl] at hpv
  unfold wpX_remove
  dsimp only
  by_cases hlt : C < 40
  · refine br_t (nI_lt (b := 40) hlt (by omega)) ?_
    rw [nI_1 D]
    refine hx_endv w9 hc0 v1 v2 (nI (D + 1)) (fun hr => br_t rfl ?_) (fun e hr => br_f (by decide) (nm_r (nI_1 C) ?_))
    · rw [hpv] at hr
      unfold wpY_remove
      dsimp only
      rw [nI_1 D]
      refine hy_seen (V := 0) (by omega) w11 hc0 _ _ _ ?_
      rw [show 100 * 0 = 0 from rfl, hr]
      exact br_t hb_mn ⟨rfl, hr_mk h'⟩
    · rw [hpv] at hr
      obtain ⟨q1, q2, q3, q4⟩ := hb_sc_some hr
      have q3 := (of_decide_eq_true q3).2.2
      rw [hw_vis hD hRg (by omega)] at q3
      unfold wpY_remove
      dsimp only
      rw [nI_1 D]
      refine hy_seen (V := 0) (by omega) w11 hc0 _ _ _ ?_
      rw [show 100 * 0 = 0 from rfl, hr]
      refine br_f (hb_nn (by omega)) (br_f (fun z => ?_) ⟨vp_in_nI (by omega) (by omega), ?_⟩)
      · rw [show (40 : Int32) = nI 40 from rfl, nI_eq (by omega) (by omega)] at z
        omega
      rw [show hb_o (some e) = nI e from rfl, hb_cl (j := e) (by omega)]
      refine nm_e (nm_r (nI_1 C) ⟨rfl, hr_mk ⟨h'.1, w2, w3, w4, w5, w6, hb_Ag_u w7 e (nI (D + 1)), w8, w9, w10, w11, w12, w13, ?_⟩⟩)
      exact hp_end (hp_bump hI hlt) (by omega) q3 (by rw [pk_us, nI_toInt (by omega)]; omega) (fun i hi => pk_un hi)
  · refine br_f (nI_nlt (b := 40) (by omega) (by omega)) ?_
    unfold wpY_remove
    dsimp only
    refine hy_seen (V := 0) (by omega) w11 hc0 _ _ _ ?_
    refine br_c (fun _ => ⟨rfl, hr_mk h'⟩) (fun _ => br_t ?_ ⟨rfl, hr_mk h'⟩)
    rw [show C = 40 from by omega]; rfl
theorem i_vc_write {k : Nat} {u : SX} {v : SY} (I : i_Rel k u v) (hk : k + 4 ≤ 2048) (v1 : Int32) (v2 : Int32) (v3 : Int32) : wpX_write (fun r u' => wpY_write (fun r' v' => r' = r ∧ i_Rel (k + 4) u' v') v v1 v2 v3) u v1 v2 v3 := by
  obtain ⟨D, C, V, SN, U, G, c0, c1, c2, sy, an, so, sk, sb, xo, xk, xb, xd, xv, xc, yo, yk, yb, yd, yv, yc, ss, fp, rfl, rfl, h⟩ := I
  have h' := hr_up h
  obtain ⟨w1, w2, w3, w4, w5, w6, w7, w8, w9, w10, w11, w12, w13, hI⟩ := h
  have hJ := hI.2.1
  have hC := hI.1
  have hc0 := hJ.1
  have hRg := hJ.2.2.2.2.2.2.1
  have hDj := hJ.2.2.2.2.2.2.2.2.1
  have hD : D < 1000 := by omega
  have eD : (nI (D + 1)).toInt = ((D + 1 : Nat) : Int) := nI_toInt (by omega)
  have hpv := hw_pv (V := 0) (by omega) hc0 w4 w5 w6 w7 v1 v2 (nI (D + 1))
  have hpb := hs_pbc (s := 0) (V := 0) (by omega) hc0 w4 w5 w6 v1 v2 (nI (D + 1))
  rw [show 100 * 0 = 0 from rfl] at hpv hpb
  have hC40 : C < 40 → ¬ nI C = 40 := fun q z => by
    rw [show (40 : Int32) = nI 40 from rfl, nI_eq (by omega) (by omega)] at z
    omega
  unfold wpX_write
  dsimp only
  by_cases hlt : C < 40
  · refine br_t (nI_lt (b := 40) hlt (by omega)) (nm_r (nI_1 D) ?_)
    refine hx_born (V := 0) (by omega) w9 hc0 _ _ _ ?_
    rw [show 100 * 0 = 0 from rfl, hpb]
    cases hown : hb_sc (hb_pb yo yk yb v1 v2 (nI (D + 1))) c0 0 with
    | some e =>
      obtain ⟨q1, q2, q3, q4⟩ := hb_sc_some hown
      have q3 := of_decide_eq_true q3
      have hbe : (yb e).toInt = (D : Int) + 1 := by rw [q3.2.2, eD]; omega
      have hvx : vp_in (nI e) 200 := vp_in_nI (by omega) (by omega)
      have hvy : vp_in (nI e) 300 := vp_in_nI (by omega) (by omega)
      refine br_f (hb_n1 (by omega)) ?_
      rw [show hb_o (some e) = nI e from rfl, hb_cl (j := e) (by omega)]
      refine ⟨hvx, nm_e ⟨hvx, nm_e ?_⟩⟩
      refine nm_r (nI_1 C) ?_
      have hrel : i_Rel (k + 4) ((nI D), (nI (C + 1)), (nI V), (nI SN), (nI U), sy, (nI G), an, so, sk, sb, xo, xk, xb, (upd xd e 0), (upd xv e v3), xc, ss, fp) ((nI D), (nI (C + 1)), (nI V), (nI SN), (nI U), sy, (nI G), an, so, sk, sb, yo, yk, yb, (upd yd e 0), (upd yv e v3), yc, ss, fp) :=
        hr_mk ⟨h'.1, w2, w3, w4, w5, w6, hb_Ag_u w7 e 0, hb_Ag_u w8 e v3, w9, w10, w11, w12, w13, hp_own (hp_bump hI hlt) (e := e) (by omega) hbe (by rw [pk_us]; exact hb_0) (fun i hi => pk_un hi) (fun i hi => pk_un hi)⟩
      unfold wpY_write
      dsimp only
      refine nm_r (nI_1 D) ?_
      refine hy_born (V := 0) (by omega) w11 hc0 _ _ _ ?_
      rw [show 100 * 0 = 0 from rfl, hown]
      refine hy_seen (V := 0) (by omega) w11 hc0 _ _ _ ?_
      rw [show 100 * 0 = 0 from rfl]
      refine br_f (hC40 hlt) (br_t (hb_np (by omega)) ?_)
      have h78 : wY_write_78 (fun r' v' => r' = 1 ∧ i_Rel (k + 4) ((nI D), (nI (C + 1)), (nI V), (nI SN), (nI U), sy, (nI G), an, so, sk, sb, xo, xk, xb, (upd xd e 0), (upd xv e v3), xc, ss, fp) v') v1 v2 v3 (nI (D + 1)) (nI e) (nI D) (nI C) (nI V) (nI SN) (nI U) sy (nI G) an so sk sb yo yk yb yd yv yc ss fp := by
        unfold wY_write_78
        refine br_f (hb_nn (by omega)) ⟨hvy, ?_⟩
        rw [hb_cl (j := e) (by omega)]
        exact nm_e ⟨hvy, nm_e (nm_r (nI_1 C) ⟨rfl, hrel⟩)⟩
      unfold wY_write_57
      cases hold : hb_sc (hb_pv yo yk yb yd v1 v2 (nI (D + 1))) c0 0 with
      | none => exact br_t hb_mn h78
      | some e2 =>
        obtain ⟨p1, p2, p3, p4⟩ := hb_sc_some hold
        have p3 := of_decide_eq_true p3
        have p5 := p3.2.2
        rw [hw_vis hD hRg (by omega)] at p5
        have ee : e2 = e := by
          by_cases z : e2 = e
          · exact z
          · have r1 := hDj e2 e (by omega) (by omega) (by omega) (by omega) z (p3.1.trans q3.1.symm) (p3.2.1.trans q3.2.1.symm)
            have r2 := hRg e2 (by omega) (by omega)
            omega
        subst ee
        exact br_f (hb_nn (by omega)) (br_t rfl h78)
    | none =>
      have hno := hb_sc_none hown
      refine br_t rfl ?_
      rw [w9]
      by_cases hfull : c0 < 100
      · refine br_t (nI_lt (b := 100) hfull (by omega)) ?_
        have hne : ∀ i, i < c0 → yo i = v1 → yk i = v2 → (yb i).toInt ≠ (D : Int) + 1 := fun i hi z1 z2 z3 =>
          hno i (by omega) (by omega) (decide_eq_true ⟨z1, z2, by rw [hb_eq, eD]; omega⟩)
        have hY100 : ¬ yc 0 = 100 := fun z => by
          rw [w11, show (100 : Int32) = nI 100 from rfl, nI_eq (by omega) (by omega)] at z
          omega
        refine hx_endv w9 hc0 v1 v2 (nI (D + 1)) (fun hr => ?_) (fun e hr => ?_)
        · rw [hpv] at hr
          have hnv := hb_sc_none hr
          refine hx_add (V := 0) (by omega) w9 hfull _ _ _ _ _ ?_
          rw [show 100 * 0 + c0 = c0 from by omega]
          refine nm_r (nI_1 C) ?_
          unfold wpY_write
          dsimp only
          refine nm_r (nI_1 D) ?_
          refine hy_born (V := 0) (by omega) w11 hc0 _ _ _ ?_
          rw [show 100 * 0 = 0 from rfl, hown]
          refine hy_seen (V := 0) (by omega) w11 hc0 _ _ _ ?_
          rw [show 100 * 0 = 0 from rfl, hr]
          refine br_f (hC40 hlt) (br_f hb_mp (br_f hY100 ?_))
          refine br_t hb_mn ?_
          refine br_t hb_mn ?_
          refine hy_add (V := 0) (by omega) w11 hfull _ _ _ _ _ ?_
          rw [show 100 * 0 + c0 = c0 from by omega]
          refine nm_r (nI_1 C) ⟨rfl, hr_mk ⟨h'.1, w2, w3, hb_Ag_u w4 _ _, hb_Ag_u w5 _ _, hb_Ag_u w6 _ _, hb_Ag_u w7 _ _, hb_Ag_u w8 _ _, pk_us, by rw [pk_un (by omega)]; exact w10, pk_us, by rw [pk_un (by omega)]; exact w12, by rw [pk_un (by omega)]; exact w13, ?_⟩⟩
          refine hp_add (hp_bump hI hlt) hfull (p := v1) (q := v2) ?_ pk_us pk_us (by rw [pk_us, eD]; omega) (by rw [pk_us]; exact hb_0) (fun i hi => pk_un hi) (fun i hi => pk_un hi) (fun i hi => pk_un hi) (fun i hi => pk_un hi) (fun i hi => pk_un hi)
          intro i hi z1 z2
          refine ⟨hne i hi z1 z2, fun z3 => hnv i (by omega) (by omega) (decide_eq_true ⟨z1, z2, (hw_vis hD hRg hi).mpr z3⟩)⟩
        · rw [hpv] at hr
          obtain ⟨p1, p2, p3, p4⟩ := hb_sc_some hr
          have p3 := of_decide_eq_true p3
          have p5 := p3.2.2
          rw [hw_vis hD hRg (by omega)] at p5
          have hvy : vp_in (nI e) 300 := vp_in_nI (by omega) (by omega)
          refine hx_add (V := 0) (by omega) w9 hfull _ _ _ _ _ ?_
          rw [show 100 * 0 + c0 = c0 from by omega]
          refine nm_r (nI_1 C) ?_
          unfold wpY_write
          dsimp only
          refine nm_r (nI_1 D) ?_
          refine hy_born (V := 0) (by omega) w11 hc0 _ _ _ ?_
          rw [show 100 * 0 = 0 from rfl, hown]
          refine hy_seen (V := 0) (by omega) w11 hc0 _ _ _ ?_
          rw [show 100 * 0 = 0 from rfl, hr]
          refine br_f (hC40 hlt) (br_f hb_mp (br_f hY100 ?_))
          refine br_f (hb_nn (by omega)) (br_f (hb_n1 (by omega)) ?_)
          rw [show hb_o (some e) = nI e from rfl, hb_cl (j := e) (by omega)]
          refine ⟨hvy, nm_e ?_⟩
          refine br_t hb_mn ?_
          refine hy_add (V := 0) (by omega) w11 hfull _ _ _ _ _ ?_
          rw [show 100 * 0 + c0 = c0 from by omega]
          refine nm_r (nI_1 C) ⟨rfl, hr_mk ⟨h'.1, w2, w3, hb_Ag_u w4 _ _, hb_Ag_u w5 _ _, hb_Ag_u w6 _ _, hb_Ag_u (hb_Ag_u w7 _ _) _ _, hb_Ag_u w8 _ _, pk_us, by rw [pk_un (by omega)]; exact w10, pk_us, by rw [pk_un (by omega)]; exact w12, by rw [pk_un (by omega)]; exact w13, ?_⟩⟩
          have hI2 := hp_end (d' := upd yd e (nI (D + 1))) (hp_bump hI hlt) (e := e) (by omega) p5 (by rw [pk_us, eD]; omega) (fun i hi => pk_un hi)
          refine hp_add hI2 hfull (p := v1) (q := v2) ?_ pk_us pk_us (by rw [pk_us, eD]; omega) (by rw [pk_us]; exact hb_0) (fun i hi => pk_un hi) (fun i hi => pk_un hi) (fun i hi => pk_un hi) (fun i hi => pk_un hi) (fun i hi => pk_un hi)
          intro i hi z1 z2
          refine ⟨hne i hi z1 z2, fun z3 => ?_⟩
          by_cases z : i = e
          · rw [z, pk_us, eD] at z3
            omega
          · rw [pk_un z] at z3
            have r1 := hDj i e (by omega) (by omega) (by omega) (by omega) z (z1.trans p3.1.symm) (z2.trans p3.2.1.symm)
            have r2 := hDj e i (by omega) (by omega) (by omega) (by omega) (fun y => z y.symm) (p3.1.trans z1.symm) (p3.2.1.trans z2.symm)
            omega
      · refine br_f (nI_nlt (b := 100) (by omega) (by omega)) ?_
        unfold wpY_write
        dsimp only
        refine nm_r (nI_1 D) ?_
        refine hy_born (V := 0) (by omega) w11 hc0 _ _ _ ?_
        rw [show 100 * 0 = 0 from rfl, hown]
        refine hy_seen (V := 0) (by omega) w11 hc0 _ _ _ ?_
        refine br_f (hC40 hlt) (br_f hb_mp (br_t ?_ ⟨rfl, hr_mk h'⟩))
        rw [w11, show c0 = 100 from by omega]; rfl
  · refine br_f (nI_nlt (b := 40) (by omega) (by omega)) ?_
    unfold wpY_write
    dsimp only
    refine nm_r (nI_1 D) ?_
    refine hy_born (V := 0) (by omega) w11 hc0 _ _ _ ?_
    refine hy_seen (V := 0) (by omega) w11 hc0 _ _ _ ?_
    refine br_t ?_ ⟨rfl, hr_mk h'⟩
    rw [show C = 40 from by omega]; rfl
