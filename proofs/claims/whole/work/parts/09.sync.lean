theorem hr_mk {k D C V SN U G c0 c1 c2 : Nat} {sy an so sk sb : Int32} {xo xk xb xd xv xc yo yk yb yd yv yc ss fp : Nat → Int32}
    (h : hr_S k D C V SN U G c0 c1 c2 sy an so sk sb xo xk xb xd xv xc yo yk yb yd yv yc) :
    i_Rel k ((nI D), (nI C), (nI V), (nI SN), (nI U), sy, (nI G), an, so, sk, sb, xo, xk, xb, xd, xv, xc, ss, fp) ((nI D), (nI C), (nI V), (nI SN), (nI U), sy, (nI G), an, so, sk, sb, yo, yk, yb, yd, yv, yc, ss, fp) :=
  ⟨D, C, V, SN, U, G, c0, c1, c2, sy, an, so, sk, sb, xo, xk, xb, xd, xv, xc, yo, yk, yb, yd, yv, yc, ss, fp, rfl, rfl, h⟩
theorem hs_w1 {G : Nat} (hG : G < 1000) (x : Int32) : (x.toInt ≤ (G : Int) → (hs_w (nI G) x).toInt = x.toInt) ∧ (¬ x.toInt ≤ (G : Int) → (hs_w (nI G) x).toInt = 0) := by
  have e : (nI G).toInt = (G : Int) := nI_toInt (by omega)
  unfold hs_w
  by_cases h : x ≤ nI G
  · rw [if_pos h]
    have := hb_ge h
    exact ⟨fun _ => rfl, fun z => by omega⟩
  · rw [if_neg h]
    have := hb_nge h
    exact ⟨fun z => by omega, fun _ => hb_0⟩
theorem hs_pbc {c s V : Nat} (hV : V < 2) {xo xk xb yo yk yb : Nat → Int32} (hc : c ≤ 100) (h1 : hb_Ag xo yo) (h2 : hb_Ag xk yk) (h3 : hb_Ag xb yb) (x y z : Int32) :
    hb_sc (hb_pb xo xk xb x y z) c (100 * V) = hb_sc (hb_pb yo yk yb x y z) c (100 * V) := by
  refine hb_sc_congr (fun l g1 g2 => ?_)
  unfold hb_pb
  rw [h1 l (by omega), h2 l (by omega), h3 l (by omega)]
theorem hl_sync {k n D C V SN U G c0 c2 : Nat} {sy : Int32} {ss fp : Nat → Int32} (hn : n ≤ 50) (hD : D < 1000) (hsy : sy ≠ 0) :
    ∀ d sent c1 (an so sk sb : Int32) (xo xk xb xd xv xc yo yk yb yd yv yc : Nat → Int32), sent + d = n →
      hr_S k D C V SN U G c0 c1 c2 sy an so sk sb xo xk xb xd xv xc yo yk yb yd yv yc →
      ∃ (r : Int32) (u' : SX) (v' : SY), i_Rel k u' v' ∧
        (∀ post : Int32 → SX → Prop, post r u' → wX_sync_58 post (nI n) (d + 1) (nI sent) (hb_o (hb_bs (hs_p U G an yo yk yb yd so sk sb) (hs_lY yo yk yb) c0 0 none)) (nI D) (nI C) (nI V) (nI SN) (nI U) sy (nI G) an so sk sb xo xk xb xd xv xc ss fp) ∧
        (∀ post : Int32 → SY → Prop, post r v' → wY_sync_63 post (nI n) (d + 1) (nI sent) (hb_o (hb_bs (hs_p U G an yo yk yb yd so sk sb) (hs_lY yo yk yb) c0 0 none)) (nI D) (nI C) (nI V) (nI SN) (nI U) sy (nI G) an so sk sb yo yk yb yd yv yc ss fp) := by
  intro d
  induction d with
  | zero =>
    intro sent c1 an so sk sb xo xk xb xd xv xc yo yk yb yd yv yc hd h
    have hle : nI n ≤ nI sent := nI_le (by omega) (by omega)
    obtain ⟨w1, w2, w3, w4, w5, w6, w7, w8, w9, w10, w11, w12, w13, hI⟩ := h
    have hJ := hI.2.1
    have hDj := hJ.2.2.2.2.2.2.2.2.1
    cases hr : hb_bs (hs_p U G an yo yk yb yd so sk sb) (hs_lY yo yk yb) c0 0 none with
    | none =>
      refine ⟨nI sent, _, _, hr_mk (D := D) (C := C) (V := V) (SN := SN) (U := G) (G := G) (c0 := c0) (c1 := c1) (c2 := c2) (sy := 0) (an := an) (so := so) (sk := sk) (sb := sb) (ss := ss) (fp := fp)
        ⟨w1, w2, w3, w4, w5, w6, w7, w8, w9, w10, w11, w12, w13, hp_keep hI (hp_stop hJ hsy (fun z => z rfl) (fun z => z.1 rfl) (fun i hi hd hp => (hs_spec hDj).2 hr i hi hd (fun ha => hp ⟨hsy, ha⟩))) (fun _ _ => rfl) (fun _ _ => rfl) (fun _ _ => rfl) (fun _ _ => rfl) (fun _ _ => rfl)⟩,
        fun post hp => br_t hle (br_t rfl hp), fun post hp => br_t hb_mn (br_f hb_mp hp)⟩
    | some s =>
      have hs := ((hs_spec hDj).1 s hr).1
      have hc0 := hJ.1
      exact ⟨nI sent, _, _, hr_mk ⟨w1, w2, w3, w4, w5, w6, w7, w8, w9, w10, w11, w12, w13, hI⟩,
        fun post hp => br_t hle (br_f (hb_n1 (by omega)) hp), fun post hp => br_f (hb_nn (by omega)) (br_t hle (br_t (hb_np (by omega)) hp))⟩
  | succ d ih =>
    intro sent c1 an so sk sb xo xk xb xd xv xc yo yk yb yd yv yc hd h
    have hle : ¬ nI n ≤ nI sent := nI_ge (by omega) (by omega)
    have h' := h
    obtain ⟨w1, w2, w3, w4, w5, w6, w7, w8, w9, w10, w11, w12, w13, hI⟩ := h
    have hJ := hI.2.1
    have hDj := hJ.2.2.2.2.2.2.2.2.1
    have hc0 := hJ.1
    have hc1 := hJ.2.1
    have hUD := hJ.2.2.1
    have hGD := hJ.2.2.2.1
    have hUG := (hJ.2.2.2.2.2.1 hsy).1
    cases hr : hb_bs (hs_p U G an yo yk yb yd so sk sb) (hs_lY yo yk yb) c0 0 none with
    | none =>
      refine ⟨nI sent, _, _, hr_mk (D := D) (C := C) (V := V) (SN := SN) (U := G) (G := G) (c0 := c0) (c1 := c1) (c2 := c2) (sy := 0) (an := an) (so := so) (sk := sk) (sb := sb) (ss := ss) (fp := fp)
        ⟨w1, w2, w3, w4, w5, w6, w7, w8, w9, w10, w11, w12, w13, hp_keep hI (hp_stop hJ hsy (fun z => z rfl) (fun z => z.1 rfl) (fun i hi hd hp => (hs_spec hDj).2 hr i hi hd (fun ha => hp ⟨hsy, ha⟩))) (fun _ _ => rfl) (fun _ _ => rfl) (fun _ _ => rfl) (fun _ _ => rfl) (fun _ _ => rfl)⟩,
        fun post hp => br_f hle (br_t rfl (br_t rfl hp)), fun post hp => br_t hb_mn (br_f hb_mp hp)⟩
    | some s =>
      obtain ⟨hs, hdue, hmin⟩ := (hs_spec hDj).1 s hr
      have hmin' : ∀ i, i < c0 → hp_due U G yb yd i → (sy ≠ 0 ∧ an ≠ 0 → hp_past yo yk yb so sk sb i) → i = s ∨ hp_past yo yk yb (yo s) (yk s) (yb s) i :=
        fun i hi hd hp => hmin i hi hd (fun ha => hp ⟨hsy, ha⟩)
      have hvy : vp_in (nI s) 300 := vp_in_nI (by omega) (by omega)
      have eo := w4 s (by omega)
      have ek := w5 s (by omega)
      have eb := w6 s (by omega)
      have ed := w7 s (by omega)
      have ev := w8 s (by omega)
      have hw := hs_w1 (G := G) (by omega) (yd s)
      have htX := hs_pbc (s := s) (V := 1) (by omega) hc1 w4 w5 w6 (xo s) (xk s) (xb s)
      rw [show 100 * 1 = 100 from rfl, eo, ek, eb] at htX
      cases ht : hb_sc (hb_pb yo yk yb (yo s) (yk s) (yb s)) c1 100 with
      | some t =>
        rw [ht, ← eo, ← ek, ← eb] at htX
        obtain ⟨t1, t2, t3, t4⟩ := hb_sc_some ht
        have t3 := of_decide_eq_true t3
        have hJ' := hp_sendT (S1' := sy ≠ 0 ∧ (1 : Int32) ≠ 0) (d' := upd yd t (hs_w (nI G) (yd s))) hJ hsy hs hdue hmin' t1 t2 t3.1 t3.2.1 t3.2.2 (by rw [pk_us]; exact hw.1) (by rw [pk_us]; exact hw.2) (fun i hi => pk_un hi)
        have hI' := hp_keep (v' := yv) hI hJ' (fun _ _ => rfl) (fun _ _ => rfl) (fun _ _ => rfl) (fun i hi => pk_un (by omega)) (fun _ _ => rfl)
        have hA' := hb_Ag_u w7 t (hs_w (nI G) (yd s))
        obtain ⟨r, u', v', g1, g2, g3⟩ := ih (sent + 1) c1 1 (yo s) (yk s) (yb s) xo xk xb (upd xd t (hs_w (nI G) (yd s))) xv xc yo yk yb (upd yd t (hs_w (nI G) (yd s))) yv yc (by omega)
          ⟨w1, w2, w3, w4, w5, w6, hA', w8, w9, w10, w11, w12, w13, hI'⟩
        refine ⟨r, u', v', g1, fun post hp => ?_, fun post hp => ?_⟩
        · have g := g2 post hp
          refine br_f hle (br_f (hb_n1 (by omega)) ?_)
          refine hx_sendT (c := c1) (by omega) w10 hc1 htX ?_
          refine br_f (by decide) (nm_r (nI_1 sent) ?_)
          refine hx_send (c := c0) (by omega) (by omega) hUG w9 hc0 ?_
          rw [eo, ek, eb, ed, hs_Ag hc0 w4 w5 w6 hA' hJ'.2.2.2.2.2.2.2.2.1]
          exact g
        · have g := g3 post hp
          refine br_f (hb_nn (by omega)) (br_f hle ?_)
          rw [show hb_o (some s) = nI s from rfl, hb_cl (j := s) (by omega)]
          refine ⟨hvy, hvy, hvy, ?_⟩
          refine hy_born (V := 1) (by omega) w12 hc1 _ _ _ ?_
          rw [show 100 * 1 = 100 from rfl, ht]
          refine br_t (hb_np (by omega)) ?_
          refine hy_115 (by omega) _ _ _ _ _ ?_
          unfold wY_sync_138
          refine br_f (hb_nn (by omega)) ⟨vp_in_nI (by omega) (by omega), ?_⟩
          rw [show hb_o (some t) = nI t from rfl, hb_cl (j := t) (by omega)]
          refine nm_e ?_
          exact hy_188 (by omega) (by omega) (by omega) w11 hc0 _ _ _ _ g
      | none =>
        rw [ht, ← eo, ← ek, ← eb] at htX
        have hno := hb_sc_none ht
        by_cases hf : c1 = 100
        · refine ⟨nI sent, _, _, hr_mk (ss := ss) (fp := fp) h', fun post hp => ?_, fun post hp => ?_⟩
          · refine br_f hle (br_f (hb_n1 (by omega)) ?_)
            refine hx_sendF (c := c1) (by omega) w10 hf htX ?_
            exact br_t rfl (br_f (hb_n1 (by omega)) hp)
          · refine br_f (hb_nn (by omega)) (br_f hle ?_)
            rw [show hb_o (some s) = nI s from rfl, hb_cl (j := s) (by omega)]
            refine ⟨hvy, hvy, hvy, ?_⟩
            refine hy_born (V := 1) (by omega) w12 hc1 _ _ _ ?_
            rw [show 100 * 1 = 100 from rfl, ht]
            exact br_f hb_mp (br_t (by rw [w12, hf]; rfl) hp)
        · have hJ' := hp_sendA (S1' := sy ≠ 0 ∧ (1 : Int32) ≠ 0) (o' := upd yo (100 + c1) (yo s)) (k' := upd yk (100 + c1) (yk s)) (b' := upd yb (100 + c1) (yb s)) (d' := upd yd (100 + c1) (hs_w (nI G) (yd s))) hJ hsy hs hdue hmin' (by omega)
            (fun m m1 m2 m3 m4 m5 => hno m m1 m2 (decide_eq_true ⟨m3, m4, (hb_eq _ _).mpr m5⟩)) pk_us pk_us pk_us (by rw [pk_us]; exact hw.1) (by rw [pk_us]; exact hw.2) (fun i hi => pk_un hi) (fun i hi => pk_un hi) (fun i hi => pk_un hi) (fun i hi => pk_un hi)
          have hI' := hp_keep (v' := upd yv (100 + c1) (yv s)) hI hJ' (fun i hi => pk_un (by omega)) (fun i hi => pk_un (by omega)) (fun i hi => pk_un (by omega)) (fun i hi => pk_un (by omega)) (fun i hi => pk_un (by omega))
          have A1 := hb_Ag_u w4 (100 + c1) (yo s)
          have A2 := hb_Ag_u w5 (100 + c1) (yk s)
          have A3 := hb_Ag_u w6 (100 + c1) (yb s)
          have A4 := hb_Ag_u w7 (100 + c1) (hs_w (nI G) (yd s))
          have A5 := hb_Ag_u w8 (100 + c1) (yv s)
          have hc9 : ∀ (a : Nat → Int32) (x : Int32), upd a (100 + c1) x s = a s := fun a x => pk_un (by omega)
          obtain ⟨r, u', v', g1, g2, g3⟩ := ih (sent + 1) (c1 + 1) 1 (yo s) (yk s) (yb s) (upd xo (100 + c1) (yo s)) (upd xk (100 + c1) (yk s)) (upd xb (100 + c1) (yb s)) (upd xd (100 + c1) (hs_w (nI G) (yd s))) (upd xv (100 + c1) (yv s)) (upd xc 1 (nI (c1 + 1)))
            (upd yo (100 + c1) (yo s)) (upd yk (100 + c1) (yk s)) (upd yb (100 + c1) (yb s)) (upd yd (100 + c1) (hs_w (nI G) (yd s))) (upd yv (100 + c1) (yv s)) (upd yc 1 (nI (c1 + 1))) (by omega)
            ⟨w1, w2, w3, A1, A2, A3, A4, A5, by rw [pk_un (by omega)]; exact w9, pk_us, by rw [pk_un (by omega)]; exact w11, pk_us, by rw [pk_un (by omega)]; exact w13, hI'⟩
          refine ⟨r, u', v', g1, fun post hp => ?_, fun post hp => ?_⟩
          · have g := g2 post hp
            refine br_f hle (br_f (hb_n1 (by omega)) ?_)
            refine hx_sendA (c := c1) (by omega) w10 (by omega) htX ?_
            refine br_f (by decide) (nm_r (nI_1 sent) ?_)
            refine hx_send (c := c0) (by omega) (by omega) hUG (by rw [pk_un (by omega)]; exact w9) hc0 ?_
            rw [eo, ek, eb, ed, ev, hs_Ag hc0 A1 A2 A3 A4 hJ'.2.2.2.2.2.2.2.2.1]
            exact g
          · have g := g3 post hp
            refine br_f (hb_nn (by omega)) (br_f hle ?_)
            rw [show hb_o (some s) = nI s from rfl, hb_cl (j := s) (by omega)]
            refine ⟨hvy, hvy, hvy, ?_⟩
            refine hy_born (V := 1) (by omega) w12 hc1 _ _ _ ?_
            rw [show 100 * 1 = 100 from rfl, ht]
            refine br_f hb_mp (br_f (fun z => ?_) ?_)
            · rw [w12, show (100 : Int32) = nI 100 from rfl, nI_eq (by omega) (by omega)] at z
              exact hf z
            refine hy_115 (by omega) _ _ _ _ _ ?_
            unfold wY_sync_138
            refine br_t hb_mn ?_
            rw [hb_cl (j := s) (by omega)]
            refine ⟨hvy, hvy, hvy, hvy, ?_⟩
            refine hy_add (V := 1) (by omega) w12 (by omega) _ _ _ _ _ ?_
            refine hy_188 (c0 := c0) (by omega) (by omega) (by omega) (by rw [pk_un (by omega)]; exact w11) hc0 _ _ _ _ ?_
            rw [show 100 * 1 + c1 = 100 + c1 from rfl, hc9, hc9, hc9]
            exact g
