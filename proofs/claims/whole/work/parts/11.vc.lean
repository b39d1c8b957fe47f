theorem hb_Ag_cp {c : Nat} {a b : Nat → Int32} (h : hb_Ag a b) : hb_Ag a (hb_cp 0 200 c b) := by
  intro j hj
  unfold hb_cp
  rw [if_neg (by omega)]; exact h j hj
theorem i_vc_commit {k : Nat} {u : SX} {v : SY} (I : i_Rel k u v) (hk : k + 4 ≤ 2048) : wpX_commit (fun r u' => wpY_commit (fun r' v' => r' = r ∧ i_Rel (k + 4) u' v') v) u := by
  obtain ⟨D, C, V, SN, U, G, c0, c1, c2, sy, an, so, sk, sb, xo, xk, xb, xd, xv, xc, yo, yk, yb, yd, yv, yc, ss, fp, rfl, rfl, h⟩ := I
  have h' := hr_up h
  obtain ⟨w1, w2, w3, w4, w5, w6, w7, w8, w9, w10, w11, w12, w13, hI⟩ := h
  have hJ := hI.2.1
  have hC := hI.1
  have hc0 := hJ.1
  have hD : D < 900 := by omega
  have eD : (nI (D + 1)).toInt = ((D + 1 : Nat) : Int) := nI_toInt (by omega)
  unfold wpX_commit
  dsimp only
  by_cases hz : C = 0
  · subst hz
    refine br_t nI_0 ?_
    unfold wpY_commit
    dsimp only
    exact br_t nI_0 ⟨rfl, hr_mk h'⟩
  · have hCn : ¬ nI C = 0 := nI_ne0 (by omega) (by omega)
    refine br_f hCn (nm_r (nI_1 D) (nm_r (e' := nI c0 + (-1)) (by rw [w9, Int32.sub_eq_add_neg]) ?_))
    obtain ⟨c', xo', xk', xb', xd', xv', xc', yo', yk', yb', yd', yv', yc', g1, g2, g3⟩ := hl_commit (N := D + 1) (n0 := c0) (by omega) (ld := nI D) (ch := nI C) (av := nI V) (sn := nI SN) (mu := nI U) (sy := sy) (sg := nI G) (an := an) (so := so) (sk := sk) (sb := sb) (ss := ss) (fp := fp)
      (xc0 := xc) (yc0 := yc) (o0 := yo) (k0 := yk) (b0 := yb) (d0 := yd) c0 c0 xo xk xb xd xv xc yo yk yb yd yv yc (Nat.le_refl c0) ⟨w4, w5, w6, w7, w8, w9, w11, fun _ _ => rfl, fun _ _ => rfl, hc0, hp_Sq_0 _ _ _ _ _ _ _⟩
    obtain ⟨a1, a2, a3, a4, a5, a6, a7, a8, a9, a10, a11⟩ := g1
    have hJ2 := hp_sub0 hJ a11 (fun i hi hq => Or.inl (by rw [hq.1, eD]; omega))
    have hJ3 := hp_J_mono (D' := D + 1) (E' := D + 1) hJ2 (by omega) (by omega) (by omega) id id
    refine ⟨c0 + 1, g2 _ ?_⟩
    unfold wpY_commit
    dsimp only
    refine br_f hCn (nm_r (nI_1 D) (nm_r (e' := nI c0 + (-1)) (by rw [w11, Int32.sub_eq_add_neg]) ?_))
    refine ⟨c0 + 1, g3 _ ⟨rfl, ?_⟩⟩
    refine hr_mk (C := 0) ⟨by omega, w2, w3, hb_Ag_cp a1, hb_Ag_cp a2, hb_Ag_cp a3, hb_Ag_cp a4, hb_Ag_cp a5, a6, (a8 1 (by omega)).trans w10, by rw [pk_un (by omega)]; exact a7, by rw [pk_un (by omega)]; exact (a9 1 (by omega)).trans w12, pk_us, hp_fin hJ3⟩
theorem hr_abort {k D C V SN U G c0 c1 c2 : Nat} {sy an so sk sb : Int32} {xo xk xb xd xv xc yo yk yb yd yv yc : Nat → Int32} (hk : D < 900)
    (h : hr_S k D C V SN U G c0 c1 c2 sy an so sk sb xo xk xb xd xv xc yo yk yb yd yv yc) (xc' : Nat → Int32) (h0 : xc' 0 = nI c2) (h1 : xc' 1 = nI c1) :
    hr_S k D 0 V SN U G c2 c1 c2 sy an so sk sb xo xk xb (hb_un 0 c2 (nI (D + 1)) xd) xv xc' (hb_cp 200 0 c2 yo) (hb_cp 200 0 c2 yk) (hb_cp 200 0 c2 yb) (hb_cp 200 0 c2 yd) (hb_cp 200 0 c2 yv) (upd yc 0 (nI c2)) := by
  obtain ⟨w1, w2, w3, w4, w5, w6, w7, w8, w9, w10, w11, w12, w13, hI⟩ := h
  have hI2 := hp_abort hI
  have eD : (nI (D + 1)).toInt = ((D + 1 : Nat) : Int) := nI_toInt (by omega)
  obtain ⟨b1, hJ, ⟨s1, s2, s3⟩, b4⟩ := hI
  have hc0 := hJ.1
  have hcp : ∀ (a x : Nat → Int32), hb_Ag x a → (∀ i, i < c2 → a (200 + i) = a i) → hb_Ag x (hb_cp 200 0 c2 a) := by
    intro a x ha hs j hj
    unfold hb_cp
    by_cases e : j < c2
    · rw [if_pos (by omega), show 200 + (j - 0) = 200 + j from by omega, hs j e]; exact ha j hj
    · rw [if_neg (by omega)]; exact ha j hj
  refine ⟨w1, w2, w3, hcp _ _ w4 (fun i hi => (s2 i hi).1), hcp _ _ w5 (fun i hi => (s2 i hi).2.1), hcp _ _ w6 (fun i hi => (s2 i hi).2.2.1), ?_, hcp _ _ w8 (fun i hi => (s2 i hi).2.2.2.1), h0, h1, pk_us, by rw [pk_un (by omega)]; exact w12, by rw [pk_un (by omega)]; exact w13, hI2⟩
  intro j hj
  unfold hb_un hb_cp
  by_cases e : j < c2
  · have q := s2 j e
    rw [if_pos (c := 0 ≤ j ∧ j < 0 + c2) (by omega), show 200 + (j - 0) = 200 + j from by omega, w7 j hj]
    by_cases z : yd j = nI (D + 1)
    · rw [if_pos ⟨by omega, e, z⟩, hb_eq, hb_0]
      have z2 : (yd j).toInt = (D : Int) + 1 := by rw [z, eD]; omega
      have := q.2.2.2.2.2.1 z2
      omega
    · rw [if_neg (fun y => z y.2.2), hb_eq]
      have z2 : (yd j).toInt ≠ (D : Int) + 1 := fun y => z (by rw [hb_eq, eD]; omega)
      have := q.2.2.2.2.2.2 z2
      omega
  · rw [if_neg (fun y => e y.2.1), if_neg (c := 0 ≤ j ∧ j < 0 + c2) (by omega)]
    exact w7 j hj
theorem hr_undo {k D C V SN U G c0 c1 c2 : Nat} {sy an so sk sb : Int32} {xo xk xb xd xv xc yo yk yb yd yv yc : Nat → Int32} (hk : D < 900)
    (h : hr_S k D C V SN U G c0 c1 c2 sy an so sk sb xo xk xb xd xv xc yo yk yb yd yv yc) :
    c2 ≤ c0 ∧ c0 ≤ 100 ∧ (∀ i, i < c2 → ¬ xb i = nI (D + 1)) ∧ (∀ i, c2 ≤ i → i < c0 → xb i = nI (D + 1)) := by
  obtain ⟨w1, w2, w3, w4, w5, w6, w7, w8, w9, w10, w11, w12, w13, hI⟩ := h
  have eD : (nI (D + 1)).toInt = ((D + 1 : Nat) : Int) := nI_toInt (by omega)
  obtain ⟨b1, hJ, ⟨s1, s2, s3⟩, b4⟩ := hI
  have hc0 := hJ.1
  refine ⟨s1, hc0, ?_, ?_⟩
  · intro i hi z
    rw [w6 i (by omega), hb_eq, eD] at z
    have := s2 i hi
    omega
  · intro i h1 h2
    rw [w6 i (by omega), hb_eq, eD]
    have := s3 i h1 h2
    omega
theorem i_vc_abort {k : Nat} {u : SX} {v : SY} (I : i_Rel k u v) (hk : k + 4 ≤ 2048) : wpX_abort (fun r u' => wpY_abort (fun r' v' => r' = r ∧ i_Rel (k + 4) u' v') v) u := by
  obtain ⟨D, C, V, SN, U, G, c0, c1, c2, sy, an, so, sk, sb, xo, xk, xb, xd, xv, xc, yo, yk, yb, yd, yv, yc, ss, fp, rfl, rfl, h⟩ := I
  have h' := hr_up h
  have hD : D < 900 := by have := h.1; omega
  obtain ⟨q1, q2, q3, q4⟩ := hr_undo hD h
  unfold wpX_abort
  dsimp only
  refine hx_undo (N := D + 1) (c0 := c0) (c2 := c2) (a := nI c1) (nI_1 D) q1 q2 q3 q4 h.2.2.2.2.2.2.2.2.1 h.2.2.2.2.2.2.2.2.2.1 ?_
  intro xc' e0 e1
  dsimp only
  unfold wpY_abort
  dsimp only
  refine hy_copy (P := 2) (Q := 0) (c := c2) (by omega) (by omega) (by omega) h.2.2.2.2.2.2.2.2.2.2.2.2.1 (by omega) ?_
  exact ⟨rfl, hr_mk (C := 0) (hr_abort hD h' xc' e0 e1)⟩
theorem i_vc_crash {k : Nat} {u : SX} {v : SY} (I : i_Rel k u v) (hk : k + 4 ≤ 2048) : wpX_crash (fun r u' => wpY_crash (fun r' v' => r' = r ∧ i_Rel (k + 4) u' v') v) u := by
  obtain ⟨D, C, V, SN, U, G, c0, c1, c2, sy, an, so, sk, sb, xo, xk, xb, xd, xv, xc, yo, yk, yb, yd, yv, yc, ss, fp, rfl, rfl, h⟩ := I
  have h' : hr_S (k + 4) D C 0 SN U G c0 c1 c2 0 an so sk sb xo xk xb xd xv xc yo yk yb yd yv yc := by
    obtain ⟨w1, w2, w3, w4, w5, w6, w7, w8, w9, w10, w11, w12, w13, b1, hJ, hs, b4⟩ := h
    exact ⟨by omega, by omega, w3, w4, w5, w6, w7, w8, w9, w10, w11, w12, w13, b1, hp_J_mono hJ (Nat.le_refl D) (Nat.le_refl (D + 1)) (Nat.le_succ D) (fun z => absurd rfl z) (fun z => absurd rfl z.1), hs, b4⟩
  have hD : D < 900 := by have := h.1; omega
  obtain ⟨q1, q2, q3, q4⟩ := hr_undo hD h
  unfold wpX_crash
  dsimp only
  refine hx_undo (N := D + 1) (c0 := c0) (c2 := c2) (a := nI c1) (nI_1 D) q1 q2 q3 q4 h.2.2.2.2.2.2.2.2.1 h.2.2.2.2.2.2.2.2.2.1 ?_
  intro xc' e0 e1
  dsimp only
  unfold wpY_crash
  dsimp only
  unfold wpY_abort
  dsimp only
  refine hy_copy (P := 2) (Q := 0) (c := c2) (by omega) (by omega) (by omega) h.2.2.2.2.2.2.2.2.2.2.2.2.1 (by omega) ?_
  exact ⟨rfl, hr_mk (C := 0) (V := 0) (hr_abort hD h' xc' e0 e1)⟩
theorem hr_use {k D C V V' SN U G c0 c1 c2 : Nat} {sy an so sk sb : Int32} {xo xk xb xd xv xc yo yk yb yd yv yc : Nat → Int32}
    (h : hr_S k D C V SN U G c0 c1 c2 sy an so sk sb xo xk xb xd xv xc yo yk yb yd yv yc) (hV : V' < 2) : hr_S k D C V' SN U G c0 c1 c2 sy an so sk sb xo xk xb xd xv xc yo yk yb yd yv yc :=
  ⟨h.1, hV, h.2.2⟩
theorem i_vc_use {k : Nat} {u : SX} {v : SY} (I : i_Rel k u v) (hk : k + 4 ≤ 2048) (v1 : Int32) : wpX_use (fun r u' => wpY_use (fun r' v' => r' = r ∧ i_Rel (k + 4) u' v') v v1) u v1 := by
  obtain ⟨D, C, V, SN, U, G, c0, c1, c2, sy, an, so, sk, sb, xo, xk, xb, xd, xv, xc, yo, yk, yb, yd, yv, yc, ss, fp, rfl, rfl, h⟩ := I
  have h' := hr_up h
  unfold wpX_use
  dsimp only
  by_cases z0 : v1 = 0
  · subst z0
    refine br_t rfl ?_
    unfold wpY_use
    dsimp only
    exact br_f (by decide) (br_t (by decide) ⟨rfl, hr_mk (V := 0) (hr_use h' (by omega))⟩)
  · refine br_f z0 ?_
    by_cases z1 : v1 = 1
    · subst z1
      refine br_t rfl ?_
      unfold wpY_use
      dsimp only
      exact br_f (by decide) (br_t (by decide) ⟨rfl, hr_mk (V := 1) (hr_use h' (by omega))⟩)
    · refine br_f z1 ?_
      unfold wpY_use
      dsimp only
      refine br_c (fun _ => ⟨rfl, hr_mk h'⟩) (fun q1 => br_f (fun q2 => ?_) ⟨rfl, hr_mk h'⟩)
      have q1 := hb_ngt q1
      have q2 := hb_ge q2
      rw [hb_eq, hb_0] at z0
      rw [hb_eq] at z1
      rw [hb_0] at q1
      have e1 : (1 : Int32).toInt = 1 := by decide
      omega
theorem hr_c {k D C V SN U G c0 c1 c2 : Nat} {sy an so sk sb : Int32} {xo xk xb xd xv xc yo yk yb yd yv yc : Nat → Int32}
    (h : hr_S k D C V SN U G c0 c1 c2 sy an so sk sb xo xk xb xd xv xc yo yk yb yd yv yc) : ∃ c, xc V = nI c ∧ yc V = nI c ∧ c ≤ 100 ∧ hp_Dj (100 * V) c yo yk yb yd ∧ (V = 0 → c = c0) ∧ (V = 1 → c = c1) := by
  obtain ⟨w1, w2, w3, w4, w5, w6, w7, w8, w9, w10, w11, w12, w13, b1, ⟨a1, a2, a3, a4, a5, a6, a7, a8, a9, a10, a11⟩, b2⟩ := h
  match V, w2 with
  | 0, _ => exact ⟨c0, w9, w11, a1, a9, fun _ => rfl, fun z => absurd z (by decide)⟩
  | 1, _ => exact ⟨c1, w10, w12, a2, a10, fun z => absurd z (by decide), fun _ => rfl⟩
theorem i_vc_has {k : Nat} {u : SX} {v : SY} (I : i_Rel k u v) (hk : k + 4 ≤ 2048) (v1 : Int32) (v2 : Int32) (v3 : Int32) : wpX_has (fun r => wpY_has (fun r' => r' = r ∧ i_Rel (k + 4) u v) v v1 v2 v3) u v1 v2 v3 := by
  obtain ⟨D, C, V, SN, U, G, c0, c1, c2, sy, an, so, sk, sb, xo, xk, xb, xd, xv, xc, yo, yk, yb, yd, yv, yc, ss, fp, rfl, rfl, h⟩ := I
  have h' := hr_up h
  obtain ⟨c, e1, e2, hc, hDj, _, _⟩ := hr_c h
  obtain ⟨w1, w2, w3, w4, w5, w6, w7, w8, w9, w10, w11, w12, w13, hI⟩ := h
  unfold wpX_has
  dsimp only
  refine hx_seen w2 e1 hc _ _ _ ?_
  rw [hw_pv w2 hc w4 w5 w6 w7]
  cases hr : hb_sc (hb_pv yo yk yb yd v1 v2 v3) c (100 * V) with
  | none =>
    refine br_t rfl ?_
    unfold wpY_has
    dsimp only
    refine hy_seen (by omega) e2 hc _ _ _ ?_
    rw [hr]
    exact br_t hb_mn ⟨rfl, hr_mk h'⟩
  | some e =>
    have he := hb_sc_some hr
    refine br_f (hb_n1 (by omega)) ?_
    unfold wpY_has
    dsimp only
    refine hy_seen (by omega) e2 hc _ _ _ ?_
    rw [hr]
    exact br_f (hb_nn (by omega)) ⟨rfl, hr_mk h'⟩
theorem i_vc_read {k : Nat} {u : SX} {v : SY} (I : i_Rel k u v) (hk : k + 4 ≤ 2048) (v1 : Int32) (v2 : Int32) (v3 : Int32) : wpX_read (fun r => wpY_read (fun r' => r' = r ∧ i_Rel (k + 4) u v) v v1 v2 v3) u v1 v2 v3 := by
  obtain ⟨D, C, V, SN, U, G, c0, c1, c2, sy, an, so, sk, sb, xo, xk, xb, xd, xv, xc, yo, yk, yb, yd, yv, yc, ss, fp, rfl, rfl, h⟩ := I
  have h' := hr_up h
  obtain ⟨c, e1, e2, hc, hDj, _, _⟩ := hr_c h
  obtain ⟨w1, w2, w3, w4, w5, w6, w7, w8, w9, w10, w11, w12, w13, hI⟩ := h
  unfold wpX_read
  dsimp only
  refine hx_seen w2 e1 hc _ _ _ ?_
  rw [hw_pv w2 hc w4 w5 w6 w7]
  cases hr : hb_sc (hb_pv yo yk yb yd v1 v2 v3) c (100 * V) with
  | none =>
    refine br_t rfl ?_
    unfold wpY_read
    dsimp only
    refine hy_seen (by omega) e2 hc _ _ _ ?_
    rw [hr]
    exact br_f hb_mp ⟨rfl, hr_mk h'⟩
  | some e =>
    have he := hb_sc_some hr
    refine br_f (hb_n1 (by omega)) ⟨vp_in_nI (by omega) (by omega), ?_⟩
    unfold wpY_read
    dsimp only
    refine hy_seen (by omega) e2 hc _ _ _ ?_
    rw [hr]
    refine br_t (hb_np (by omega)) ⟨vp_in_nI (by omega) (by omega), ?_, hr_mk h'⟩
    rw [show hb_o (some e) = nI e from rfl, hb_cl (j := e) (by omega)]
    exact (w8 e (by omega)).symm
theorem hw_next {c V : Nat} (hV : V < 2) {xo xk xb xd yo yk yb yd : Nat → Int32} (hc : c ≤ 100) (h1 : hb_Ag xo yo) (h2 : hb_Ag xk yk) (h3 : hb_Ag xb yb) (h4 : hb_Ag xd yd) (hD : hp_Dj (100 * V) c yo yk yb yd) (x y t : Int32) :
    hb_bs (hb_pn xo xk xb xd x y t) (hb_lX xo xk) c (100 * V) none = hb_bs (hb_pn yo yk yb yd x y t) (hb_lY yo yk) c (100 * V) none := by
  have hp : ∀ l, 100 * V ≤ l → l < 100 * V + c → hb_pn xo xk xb xd x y t l = hb_pn yo yk yb yd x y t l := by
    intro l g1 g2
    unfold hb_pn hb_vis hb_Pk
    rw [h1 l (by omega), h2 l (by omega), h3 l (by omega), h4 l (by omega)]
  refine hb_bs_congr (s := 100 * V) (e := 100 * V + c) hp ?_ c (100 * V) none (by omega) (by omega) (fun i hi => by cases hi)
  intro i j g1 g2 g3 p1 p2
  rw [hp i g1 (by omega)] at p1
  rw [hp j (by omega) g3] at p2
  have p1 := ((hb_bi _).mp p1).1
  have p2 := ((hb_bi _).mp p2).1
  unfold hb_vis at p1 p2
  rw [decide_eq_true_iff, hb_lt, hb_eq, hb_0, hb_le] at p1
  rw [decide_eq_true_iff, hb_lt, hb_eq, hb_0, hb_le] at p2
  have r1 := hD i j g1 (by omega) (by omega) g3 (by omega)
  have r2 := hD j i (by omega) g3 g1 (by omega) (by omega)
  unfold hb_lX hb_lY
  refine hb_bc ?_
  unfold hb_Pk
  rw [h1 i (by omega), h2 i (by omega), h1 j (by omega), h2 j (by omega)]
  rw [hb_eq (yo i), hb_eq (yk i)] at r1
  rw [hb_eq (yo j), hb_eq (yk j)] at r2
  rw [hb_lt, hb_lt, hb_le, hb_le, hb_eq (yo j)]
  omega
theorem i_vc_next {k : Nat} {u : SX} {v : SY} (I : i_Rel k u v) (hk : k + 4 ≤ 2048) (v1 : Int32) (v2 : Int32) (v3 : Int32) : wpX_next (fun r u' => wpY_next (fun r' v' => r' = r ∧ i_Rel (k + 4) u' v') v v1 v2 v3) u v1 v2 v3 := by
  obtain ⟨D, C, V, SN, U, G, c0, c1, c2, sy, an, so, sk, sb, xo, xk, xb, xd, xv, xc, yo, yk, yb, yd, yv, yc, ss, fp, rfl, rfl, h⟩ := I
  have h' := hr_up h
  obtain ⟨c, e1, e2, hc, hDj, _, _⟩ := hr_c h
  obtain ⟨w1, w2, w3, w4, w5, w6, w7, w8, w9, w10, w11, w12, w13, hI⟩ := h
  have he := hw_next w2 hc w4 w5 w6 w7 hDj v1 v2 v3
  refine hx_next rfl w2 e1 hc _ _ _ (fun hr => ?_) (fun i hi hr => ?_)
  · rw [he] at hr
    refine hy_next rfl (by omega) e2 hc _ _ _ (fun _ => ⟨rfl, hr_mk h'⟩) (fun j _ hj => ?_)
    rw [hr] at hj; cases hj
  · rw [he] at hr
    refine hy_next rfl (by omega) e2 hc _ _ _ (fun hj => ?_) (fun j _ hj => ?_)
    · rw [hr] at hj; cases hj
    · rw [hr] at hj; cases hj
      refine ⟨rfl, ?_⟩
      rw [w4 i hi, w5 i hi, w6 i hi, w8 i hi]
      exact hr_mk h'
theorem i_vc_found {k : Nat} {u : SX} {v : SY} (I : i_Rel k u v) (hk : k + 4 ≤ 2048) (v1 : Int32) : wpX_found (fun r => wpY_found (fun r' => r' = r ∧ i_Rel (k + 4) u v) v v1) u v1 := by
  obtain ⟨D, C, V, SN, U, G, c0, c1, c2, sy, an, so, sk, sb, xo, xk, xb, xd, xv, xc, yo, yk, yb, yd, yv, yc, ss, fp, rfl, rfl, h⟩ := I
  have h' := hr_up h
  unfold wpX_found
  dsimp only
  have e3 : (3 : Int32).toInt = 3 := by decide
  have e4 : (4 : Int32).toInt = 4 := by decide
  by_cases z0 : v1 < 0
  · refine br_t z0 ?_
    unfold wpY_found
    dsimp only
    exact br_t z0 ⟨rfl, hr_mk h'⟩
  · refine br_f z0 ?_
    have q0 := hb_ngt z0
    rw [hb_0] at q0
    by_cases z1 : v1 < 4
    · have q1 := hb_gt z1
      have hv : vp_in v1 4 := vp_in_iff.mpr (by omega)
      refine br_t z1 ⟨hv, ?_⟩
      unfold wpY_found
      dsimp only
      exact br_f z0 (br_t ((hb_le _ _).mpr (by omega)) ⟨hv, rfl, hr_mk h'⟩)
    · have q1 := hb_ngt z1
      refine br_f z1 ?_
      unfold wpY_found
      dsimp only
      exact br_f z0 (br_f (fun z => by have := hb_ge z; omega) ⟨rfl, hr_mk h'⟩)
theorem i_vc_synced {k : Nat} {u : SX} {v : SY} (I : i_Rel k u v) (hk : k + 4 ≤ 2048) : wpX_synced (fun r => wpY_synced (fun r' => r' = r ∧ i_Rel (k + 4) u v) v) u := by
  obtain ⟨D, C, V, SN, U, G, c0, c1, c2, sy, an, so, sk, sb, xo, xk, xb, xd, xv, xc, yo, yk, yb, yd, yv, yc, ss, fp, rfl, rfl, h⟩ := I
  have h' := hr_up h
  unfold wpX_synced wpY_synced
  dsimp only
  exact br_c (fun z => br_t z ⟨rfl, hr_mk h'⟩) (fun z => br_f z ⟨rfl, hr_mk h'⟩)
theorem i_vc_size {k : Nat} {u : SX} {v : SY} (I : i_Rel k u v) (hk : k + 4 ≤ 2048) : wpX_size (fun r => wpY_size (fun r' => r' = r ∧ i_Rel (k + 4) u v) v) u := by
  obtain ⟨D, C, V, SN, U, G, c0, c1, c2, sy, an, so, sk, sb, xo, xk, xb, xd, xv, xc, yo, yk, yb, yd, yv, yc, ss, fp, rfl, rfl, h⟩ := I
  have h' := hr_up h
  obtain ⟨c, e1, e2, hc, hDj, _, _⟩ := hr_c h
  have hV := h.2.1
  unfold wpX_size wpY_size
  dsimp only
  rw [hb_cl (j := V) (by omega)]
  exact ⟨vp_in_nI hV (by omega), vp_in_nI (by omega) (by omega), e2.trans e1.symm, hr_mk h'⟩
theorem i_vc_done {k : Nat} {u : SX} {v : SY} (I : i_Rel k u v) (hk : k + 4 ≤ 2048) : wpX_done (fun r => wpY_done (fun r' => r' = r ∧ i_Rel (k + 4) u v) v) u := by
  obtain ⟨D, C, V, SN, U, G, c0, c1, c2, sy, an, so, sk, sb, xo, xk, xb, xd, xv, xc, yo, yk, yb, yd, yv, yc, ss, fp, rfl, rfl, h⟩ := I
  exact ⟨rfl, hr_mk (hr_up h)⟩
