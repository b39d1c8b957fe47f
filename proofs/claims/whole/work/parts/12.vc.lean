theorem hx_snapL {S : Nat} (hS : S ≤ 4) (x : Int32) {ld ch av mu sy sg an so sk sb : Int32} {xo xk xb xd xv xc ss fp : Nat → Int32} (post : Int32 → SX → Prop) :
    ∀ d i, i + d = S →
    (hb_sc (fun l => decide (ss l = x)) d i = none → S < 4 → post 1 (ld, ch, av, (nI (S + 1)), mu, sy, sg, an, so, sk, sb, xo, xk, xb, xd, xv, xc, (upd ss S x), fp)) →
    (hb_sc (fun l => decide (ss l = x)) d i = none → S = 4 → post 0 (ld, ch, av, (nI S), mu, sy, sg, an, so, sk, sb, xo, xk, xb, xd, xv, xc, ss, fp)) →
    (∀ e, hb_sc (fun l => decide (ss l = x)) d i = some e → post 1 (ld, ch, av, (nI (S - 1)), mu, sy, sg, an, so, sk, sb, xo, xk, xb, xd, xv, xc, (upd ss e (ss (S - 1))), fp)) →
    wX_snapshot_16 post x ld ch av (nI S) mu sy sg an so sk sb xo xk xb xd xv xc ss fp (d + 1) (nI i) := by
  intro d
  induction d with
  | zero =>
    intro i hi h1 h2 h3
    refine br_t (nI_le (by omega) (by omega)) ?_
    by_cases z : S < 4
    · refine br_t (nI_lt (b := 4) z (by omega)) ⟨vp_in_nI z (by omega), ?_⟩
      rw [hb_cl (by omega)]
      exact nm_e (nm_r (nI_1 S) (h1 rfl z))
    · exact br_f (nI_nlt (b := 4) (by omega) (by omega)) (h2 rfl (by omega))
  | succ d ih =>
    intro i hi h1 h2 h3
    have hv : vp_in (nI i) 4 := vp_in_nI (by omega) (by omega)
    refine br_f (nI_ge (by omega) (by omega)) ⟨hv, ?_⟩
    rw [hb_cl (j := i) (by omega)]
    by_cases z : ss i = x
    · rw [hb_sc_t (p := fun l => decide (ss l = x)) (decide_eq_true z)] at h3
      refine br_t z (nm_r (e' := nI (S - 1)) ?_ ⟨vp_in_nI (by omega) (by omega), hv, ?_⟩)
      · rw [show nI S = nI (S - 1 + 1) from by rw [show S - 1 + 1 = S from by omega], hb_dec]
      rw [hb_cl (j := S - 1) (by omega)]
      exact nm_e (h3 i rfl)
    · have zf : ¬ (fun l => decide (ss l = x)) i = true := fun y => z (of_decide_eq_true y)
      rw [hb_sc_f zf] at h1 h2 h3
      exact br_f z (nm_r (nI_1 i) (ih (i + 1) (by omega) h1 h2 h3))
theorem hy_snapL {S : Nat} (hS : S ≤ 4) (x : Int32) {ld ch av mu sy sg an so sk sb : Int32} {yo yk yb yd yv yc ss fp : Nat → Int32} (post : Int32 → SY → Prop) :
    ∀ d i, i + d = S →
    (hb_sc (fun l => decide (ss l = x)) d i = none → S < 4 → post 1 (ld, ch, av, (nI (S + 1)), mu, sy, sg, an, so, sk, sb, yo, yk, yb, yd, yv, yc, (upd ss S x), fp)) →
    (hb_sc (fun l => decide (ss l = x)) d i = none → S = 4 → post 0 (ld, ch, av, (nI S), mu, sy, sg, an, so, sk, sb, yo, yk, yb, yd, yv, yc, ss, fp)) →
    (∀ e, hb_sc (fun l => decide (ss l = x)) d i = some e → post 1 (ld, ch, av, (nI (S - 1)), mu, sy, sg, an, so, sk, sb, yo, yk, yb, yd, yv, yc, (upd ss e (ss (S - 1))), fp)) →
    wY_snapshot_16 post x ld ch av (nI S) mu sy sg an so sk sb yo yk yb yd yv yc ss fp (d + 1) (nI i) := by
  intro d
  induction d with
  | zero =>
    intro i hi h1 h2 h3
    refine br_t (nI_le (by omega) (by omega)) ?_
    by_cases z : S < 4
    · refine br_f (fun y => ?_) ?_
      · rw [show (4 : Int32) = nI 4 from rfl, nI_eq (by omega) (by omega)] at y
        omega
      refine nm_r (nI_1 S) ⟨vp_in_nI z (by omega), ?_⟩
      rw [hb_cl (by omega)]
      exact nm_e (h1 rfl z)
    · exact br_t (by rw [show S = 4 from by omega]; rfl) (h2 rfl (by omega))
  | succ d ih =>
    intro i hi h1 h2 h3
    have hv : vp_in (nI i) 4 := vp_in_nI (by omega) (by omega)
    refine br_f (nI_ge (by omega) (by omega)) ⟨hv, ?_⟩
    rw [hb_cl (j := i) (by omega)]
    have eS : nI S - 1 = nI (S - 1) := by
      rw [show nI S = nI (S - 1 + 1) from by rw [show S - 1 + 1 = S from by omega], hb_dec]
    by_cases z : ss i = x
    · rw [hb_sc_t (p := fun l => decide (ss l = x)) (decide_eq_true z)] at h3
      rw [eS]
      refine br_t z (nm_e ⟨vp_in_nI (by omega) (by omega), hv, ?_⟩)
      rw [hb_cl (j := S - 1) (by omega)]
      exact nm_e (h3 i rfl)
    · have zf : ¬ (fun l => decide (ss l = x)) i = true := fun y => z (of_decide_eq_true y)
      rw [hb_sc_f zf] at h1 h2 h3
      exact br_f z (nm_r (nI_1 i) (ih (i + 1) (by omega) h1 h2 h3))
theorem hr_sn {k D C V SN SN' U G c0 c1 c2 : Nat} {sy an so sk sb : Int32} {xo xk xb xd xv xc yo yk yb yd yv yc : Nat → Int32}
    (h : hr_S k D C V SN U G c0 c1 c2 sy an so sk sb xo xk xb xd xv xc yo yk yb yd yv yc) (hS : SN' ≤ 4) : hr_S k D C V SN' U G c0 c1 c2 sy an so sk sb xo xk xb xd xv xc yo yk yb yd yv yc :=
  ⟨h.1, h.2.1, hS, h.2.2.2⟩
theorem i_vc_snapshot {k : Nat} {u : SX} {v : SY} (I : i_Rel k u v) (hk : k + 4 ≤ 2048) (v1 : Int32) : wpX_snapshot (fun r u' => wpY_snapshot (fun r' v' => r' = r ∧ i_Rel (k + 4) u' v') v v1) u v1 := by
  obtain ⟨D, C, V, SN, U, G, c0, c1, c2, sy, an, so, sk, sb, xo, xk, xb, xd, xv, xc, yo, yk, yb, yd, yv, yc, ss, fp, rfl, rfl, h⟩ := I
  have h' := hr_up h
  have hS := h.2.2.1
  unfold wpX_snapshot
  dsimp only
  by_cases z0 : v1 < 0
  · refine br_t z0 ?_
    unfold wpY_snapshot
    dsimp only
    exact br_t z0 ⟨rfl, hr_mk h'⟩
  · refine br_f z0 ?_
    by_cases z1 : v1 ≤ nI D
    · refine br_t z1 ⟨SN + 1, ?_⟩
      refine hx_snapL hS v1 _ SN 0 (by omega) (fun q1 q2 => ?_) (fun q1 q2 => ?_) (fun e q1 => ?_)
      · unfold wpY_snapshot
        dsimp only
        refine br_f z0 (br_t z1 ⟨SN + 1, hy_snapL hS v1 _ SN 0 (by omega) (fun _ _ => ⟨rfl, hr_mk (hr_sn h' (by omega))⟩) (fun _ p2 => by omega) (fun e p1 => ?_)⟩)
        rw [q1] at p1; cases p1
      · unfold wpY_snapshot
        dsimp only
        refine br_f z0 (br_t z1 ⟨SN + 1, hy_snapL hS v1 _ SN 0 (by omega) (fun _ p2 => by omega) (fun _ p2 => ⟨rfl, hr_mk h'⟩) (fun e p1 => ?_)⟩)
        rw [q1] at p1; cases p1
      · unfold wpY_snapshot
        dsimp only
        refine br_f z0 (br_t z1 ⟨SN + 1, hy_snapL hS v1 _ SN 0 (by omega) (fun p1 _ => ?_) (fun p1 _ => ?_) (fun e' p1 => ?_)⟩)
        · rw [q1] at p1; cases p1
        · rw [q1] at p1; cases p1
        · rw [q1] at p1; cases p1
          exact ⟨rfl, hr_mk (hr_sn h' (by omega))⟩
    · refine br_f z1 ?_
      unfold wpY_snapshot
      dsimp only
      exact br_f z0 (br_f z1 ⟨rfl, hr_mk h'⟩)
theorem hr_prune {k D V SN U G L c0 c1 c2 c' n0 : Nat} {sy an so sk sb : Int32} {xo xk xb xd xv xc yo yk yb yd yv yc xo' xk' xb' xd' xv' xc' yo' yk' yb' yd' yv' yc' : Nat → Int32}
    (h : hr_S k D 0 V SN U G c0 c1 c2 sy an so sk sb xo xk xb xd xv xc yo yk yb yd yv yc) (h0 : V = 0 → n0 = c0 ∧ L = U) (h1 : V = 1 → n0 = c1)
    (g : hl_R (fun _ d => d.toInt ≠ 0 ∧ d.toInt ≤ (L : Int)) V n0 c' xc yc yo yk yb yd xo' xk' xb' xd' xv' xc' yo' yk' yb' yd' yv' yc') :
    ∃ e e1 : Nat, e ≤ 100 ∧ yc' 0 = nI e ∧ hr_S k D 0 V SN U G e e1 e sy an so sk sb xo' xk' xb' xd' xv' xc' (hb_cp 0 200 e yo') (hb_cp 0 200 e yk') (hb_cp 0 200 e yb') (hb_cp 0 200 e yd') (hb_cp 0 200 e yv') (upd yc' 2 (nI e)) := by
  obtain ⟨w1, w2, w3, w4, w5, w6, w7, w8, w9, w10, w11, w12, w13, hI⟩ := h
  obtain ⟨a1, a2, a3, a4, a5, a6, a7, a8, a9, a10, a11⟩ := g
  have hJ := hp_low hI
  match V, w2 with
  | 0, _ =>
    obtain ⟨e0, e1⟩ := h0 rfl
    subst e0 e1
    have hJ2 := hp_sub0 hJ a11 (fun i hi hq => Or.inr hq)
    exact ⟨c', c1, a10, a7, w1, by omega, w3, hb_Ag_cp a1, hb_Ag_cp a2, hb_Ag_cp a3, hb_Ag_cp a4, hb_Ag_cp a5, a6, (a8 1 (by omega)).trans w10, by rw [pk_un (by omega)]; exact a7, by rw [pk_un (by omega)]; exact (a9 1 (by omega)).trans w12, pk_us, hp_fin hJ2⟩
  | 1, _ =>
    have e0 := h1 rfl
    subst e0
    have hJ2 := hp_sub1 hJ a11
    have y0 := (a9 0 (by omega)).trans w11
    exact ⟨c0, c', hJ.1, y0, w1, by omega, w3, hb_Ag_cp a1, hb_Ag_cp a2, hb_Ag_cp a3, hb_Ag_cp a4, hb_Ag_cp a5, (a8 0 (by omega)).trans w9, a6, by rw [pk_un (by omega)]; exact y0, by rw [pk_un (by omega)]; exact a7, pk_us, hp_fin hJ2⟩
theorem hw_prune {k D V SN U G L c0 c1 c2 c : Nat} {sy an so sk sb : Int32} {xo xk xb xd xv xc yo yk yb yd yv yc ss fp : Nat → Int32} (hk : k ≤ 2048)
    (h : hr_S k D 0 V SN U G c0 c1 c2 sy an so sk sb xo xk xb xd xv xc yo yk yb yd yv yc) (e1 : xc V = nI c) (e2 : yc V = nI c) (hc : c ≤ 100)
    (h0 : V = 0 → c = c0 ∧ L = U) (h1 : V = 1 → c = c1 ∧ L = D) :
    wX_prune_27 (fun r u' => wpY_prune (fun r' v' => r' = r ∧ i_Rel k u' v') ((nI D), (nI 0), (nI V), (nI SN), (nI U), sy, (nI G), an, so, sk, sb, yo, yk, yb, yd, yv, yc, ss, fp)) (nI L) (nI D) (nI 0) (nI V) (nI SN) (nI U) sy (nI G) an so sk sb xo xk xb xd xv xc ss fp := by
  have hV := h.2.1
  have hUD := h.2.2.2.2.2.2.2.2.2.2.2.2.2.2.1.2.2.1
  have hD := h.1
  obtain ⟨c', t', xo', xk', xb', xd', xv', xc', yo', yk', yb', yd', yv', yc', g1, g2, g3⟩ := hl_prune (D := D) (U := U) (L := L) (V := V) (S := SN) (n0 := c) hV h.2.2.1 (by omega) hUD (fun z => (h0 z).2) (fun z => (h1 z).2) (ch := nI 0) (sy := sy) (sg := nI G) (an := an) (so := so) (sk := sk) (sb := sb) (ss := ss) (fp := fp)
    (xc0 := xc) (yc0 := yc) (o0 := yo) (k0 := yk) (b0 := yb) (d0 := yd) c c 0 xo xk xb xd xv xc yo yk yb yd yv yc (Nat.le_refl c) ⟨h.2.2.2.1, h.2.2.2.2.1, h.2.2.2.2.2.1, h.2.2.2.2.2.2.1, h.2.2.2.2.2.2.2.1, e1, e2, fun _ _ => rfl, fun _ _ => rfl, hc, hp_Sq_0 _ _ _ _ _ _ _⟩
  obtain ⟨e, e', q1, q2, q3⟩ := hr_prune h h0 (fun z => (h1 z).1) g1
  unfold wX_prune_27
  refine hx_first hV ?_
  refine hx_end hV e1 ?_
  refine nm_r (e' := nI (100 * V + c) + (-1)) (by rw [Int32.sub_eq_add_neg]) ?_
  refine ⟨c + 1, g2 _ ?_⟩
  unfold wpY_prune
  dsimp only
  refine br_t (by decide) ⟨vp_in_nI (by omega) (by omega), ?_⟩
  refine nm_r (e' := nI (100 * V + c) + (-1)) (by rw [hb_cl (j := V) (by omega), e2, hy_100, nI_add, Int32.sub_eq_add_neg]) ?_
  exact ⟨c + 1, g3 _ e q1 q2 ⟨rfl, hr_mk (C := 0) q3⟩⟩
theorem i_vc_prune {k : Nat} {u : SX} {v : SY} (I : i_Rel k u v) (hk : k + 4 ≤ 2048) : wpX_prune (fun r u' => wpY_prune (fun r' v' => r' = r ∧ i_Rel (k + 4) u' v') v) u := by
  obtain ⟨D, C, V, SN, U, G, c0, c1, c2, sy, an, so, sk, sb, xo, xk, xb, xd, xv, xc, yo, yk, yb, yd, yv, yc, ss, fp, rfl, rfl, h⟩ := I
  have h' := hr_up h
  obtain ⟨c, e1, e2, hc, hDj, f0, f1⟩ := hr_c h
  have hV := h.2.1
  have hC : C ≤ 40 := h.2.2.2.2.2.2.2.2.2.2.2.2.2.1
  unfold wpX_prune
  dsimp only
  by_cases z : C = 0
  · subst z
    refine br_t (by decide) ?_
    match V, hV, e1, e2, f0, f1, h' with
    | 0, _, e1, e2, f0, f1, h' => exact br_t nI_0 (hw_prune hk h' e1 e2 hc (fun _ => ⟨f0 rfl, rfl⟩) (fun y => absurd y (by decide)))
    | 1, _, e1, e2, f0, f1, h' => exact br_f (by decide) (hw_prune hk h' e1 e2 hc (fun y => absurd y (by decide)) (fun _ => ⟨f1 rfl, rfl⟩))
  · have hn : ¬ nI C ≤ 0 := nI_nle (by omega) (by omega)
    refine br_f hn ?_
    unfold wpY_prune
    dsimp only
    exact br_f hn ⟨rfl, hr_mk h'⟩
theorem hw_sync {k n D C V SN U G c0 c1 c2 : Nat} {sy an so sk sb : Int32} {xo xk xb xd xv xc yo yk yb yd yv yc ss fp : Nat → Int32} (hn : n ≤ 50) (hk : k ≤ 2048) (hsy : sy ≠ 0)
    (h : hr_S k D C V SN U G c0 c1 c2 sy an so sk sb xo xk xb xd xv xc yo yk yb yd yv yc) :
    ∃ (r : Int32) (u' : SX) (v' : SY), i_Rel k u' v' ∧
      (∀ post : Int32 → SX → Prop, post r u' → wX_sync_51 post (nI n) (nI D) (nI C) (nI V) (nI SN) (nI U) sy (nI G) an so sk sb xo xk xb xd xv xc ss fp) ∧
      (∀ post : Int32 → SY → Prop, post r v' → wY_sync_56 post (nI n) (nI D) (nI C) (nI V) (nI SN) (nI U) sy (nI G) an so sk sb yo yk yb yd yv yc ss fp) := by
  have hD : D < 1000 := by have := h.1; omega
  obtain ⟨r, u', v', g1, g2, g3⟩ := hl_sync (ss := ss) (fp := fp) hn hD hsy n 0 c1 an so sk sb xo xk xb xd xv xc yo yk yb yd yv yc (by omega) h
  obtain ⟨w1, w2, w3, w4, w5, w6, w7, w8, w9, w10, w11, w12, w13, hI⟩ := h
  have hJ := hI.2.1
  have hUD := hJ.2.2.1
  have hGD := hJ.2.2.2.1
  have hUG := (hJ.2.2.2.2.2.1 hsy).1
  refine ⟨r, u', v', g1, fun post hp => ?_, fun post hp => ?_⟩
  · unfold wX_sync_51
    refine hx_send (c := c0) (by omega) (by omega) hUG w9 hJ.1 ?_
    rw [hs_Ag hJ.1 w4 w5 w6 w7 hJ.2.2.2.2.2.2.2.2.1]
    exact ⟨n + 1, g2 post hp⟩
  · unfold wY_sync_56
    refine hy_send (c := c0) (by omega) (by omega) w11 hJ.1 ?_
    exact ⟨n + 1, g3 post hp⟩
theorem i_vc_sync {k : Nat} {u : SX} {v : SY} (I : i_Rel k u v) (hk : k + 4 ≤ 2048) (v1 : Int32) : wpX_sync (fun r u' => wpY_sync (fun r' v' => r' = r ∧ i_Rel (k + 4) u' v') v v1) u v1 := by
  obtain ⟨D, C, V, SN, U, G, c0, c1, c2, sy, an, so, sk, sb, xo, xk, xb, xd, xv, xc, yo, yk, yb, yd, yv, yc, ss, fp, rfl, rfl, h⟩ := I
  have h' := hr_up h
  have hI := h'.2.2.2.2.2.2.2.2.2.2.2.2.2
  have hJ := hI.2.1
  have hUD := hJ.2.2.1
  have hD := h.1
  have e1 : (1 : Int32).toInt = 1 := by decide
  have e50 : (50 : Int32).toInt = 50 := by decide
  unfold wpX_sync
  dsimp only
  by_cases z0 : v1 < 1
  · refine br_t z0 ?_
    unfold wpY_sync
    dsimp only
    exact br_t z0 ⟨rfl, hr_mk h'⟩
  · refine br_f z0 ?_
    have q0 := hb_ngt z0
    by_cases z1 : v1 ≤ 50
    · refine br_t z1 ?_
      have q1 := hb_ge z1
      have y1 : ¬ (50 : Int32) < v1 := fun y => by have := hb_gt y; omega
      obtain ⟨n, hn, rfl⟩ : ∃ n : Nat, n ≤ 50 ∧ v1 = nI n := by
        obtain ⟨j, hj, e⟩ := nI_of (x := v1) (fun y => by have := hb_gt y; rw [hb_0] at this; omega)
        rw [e, nI_toInt hj, e50] at q1
        exact ⟨j, by omega, e⟩
      by_cases z2 : sy = 0
      · refine br_t z2 ?_
        by_cases z3 : U < D
        · refine br_t (nI_lt z3 (by omega)) ?_
          have h2 : hr_S (k + 4) D C V SN U D c0 c1 c2 1 0 so sk sb xo xk xb xd xv xc yo yk yb yd yv yc := by
            obtain ⟨w1, w2, w3, w4, w5, w6, w7, w8, w9, w10, w11, w12, w13, hI⟩ := h'
            exact ⟨w1, w2, w3, w4, w5, w6, w7, w8, w9, w10, w11, w12, w13, hp_keep hI (hp_start hJ (fun y => y.2 rfl)) (fun _ _ => rfl) (fun _ _ => rfl) (fun _ _ => rfl) (fun _ _ => rfl) (fun _ _ => rfl)⟩
          obtain ⟨r, u', v', g1, g2, g3⟩ := hw_sync (ss := ss) (fp := fp) hn hk (by decide) h2
          refine g2 _ ?_
          unfold wpY_sync
          dsimp only
          refine br_f z0 (br_f y1 (br_t z2 (br_f (fun y => ?_) ?_)))
          · rw [nI_eq (by omega) (by omega)] at y
            omega
          unfold wY_sync_31
          exact br_t z2 (g3 _ ⟨rfl, g1⟩)
        · refine br_f (nI_nlt (by omega) (by omega)) ?_
          unfold wpY_sync
          dsimp only
          exact br_f z0 (br_f y1 (br_t z2 (br_t (by rw [show U = D from by omega]) ⟨rfl, hr_mk h'⟩)))
      · refine br_f z2 ?_
        obtain ⟨r, u', v', g1, g2, g3⟩ := hw_sync (ss := ss) (fp := fp) hn hk z2 h'
        refine g2 _ ?_
        unfold wpY_sync
        dsimp only
        refine br_f z0 (br_f y1 (br_f z2 ?_))
        unfold wY_sync_31
        exact br_f z2 (g3 _ ⟨rfl, g1⟩)
    · refine br_f z1 ?_
      have q1 := hb_nge z1
      unfold wpY_sync
      dsimp only
      exact br_f z0 (br_t ((hb_lt _ _).mpr q1) ⟨rfl, hr_mk h'⟩)
