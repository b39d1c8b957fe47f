/-- a volume during a loop that takes away: both sides alike, and what is left of the beginning's -/
def hl_R (Q : Int32 → Int32 → Prop) (V n0 c : Nat) (xc0 yc0 o0 k0 b0 d0 : Nat → Int32) (xo xk xb xd xv xc yo yk yb yd yv yc : Nat → Int32) : Prop :=
  hb_Ag xo yo ∧ hb_Ag xk yk ∧ hb_Ag xb yb ∧ hb_Ag xd yd ∧ hb_Ag xv yv ∧ xc V = nI c ∧ yc V = nI c ∧ (∀ j, j ≠ V → xc j = xc0 j) ∧ (∀ j, j ≠ V → yc j = yc0 j) ∧ c ≤ 100 ∧ hp_Sq Q (100 * V) n0 c o0 k0 b0 d0 yo yk yb yd
theorem hl_step {Q : Int32 → Int32 → Prop} {V n0 c i : Nat} {xc0 yc0 o0 k0 b0 d0 xo xk xb xd xv xc yo yk yb yd yv yc : Nat → Int32} (hV : V < 2)
    (h : hl_R Q V n0 (c + 1) xc0 yc0 o0 k0 b0 d0 xo xk xb xd xv xc yo yk yb yd yv yc) (h1 : 100 * V ≤ i) (h2 : i < 100 * V + (c + 1)) (hQ : Q (yb i) (yd i)) :
    hl_R Q V n0 c xc0 yc0 o0 k0 b0 d0 (upd xo i (xo (100 * V + c))) (upd xk i (xk (100 * V + c))) (upd xb i (xb (100 * V + c))) (upd xd i (xd (100 * V + c))) (upd xv i (xv (100 * V + c))) (upd xc V (nI c))
      (upd yo i (yo (100 * V + c))) (upd yk i (yk (100 * V + c))) (upd yb i (yb (100 * V + c))) (upd yd i (yd (100 * V + c))) (upd yv i (yv (100 * V + c))) (upd yc V (nI c)) := by
  obtain ⟨a1, a2, a3, a4, a5, a6, a7, a8, a9, a10, a11⟩ := h
  have hl : 100 * V + c < 200 := by omega
  refine ⟨?_, ?_, ?_, ?_, ?_, pk_us, pk_us, fun j hj => by rw [pk_un hj]; exact a8 j hj, fun j hj => by rw [pk_un hj]; exact a9 j hj, by omega, hp_Sq_s a11 h1 h2 hQ⟩
  · rw [a1 _ hl]; exact hb_Ag_u a1 _ _
  · rw [a2 _ hl]; exact hb_Ag_u a2 _ _
  · rw [a3 _ hl]; exact hb_Ag_u a3 _ _
  · rw [a4 _ hl]; exact hb_Ag_u a4 _ _
  · rw [a5 _ hl]; exact hb_Ag_u a5 _ _
theorem hl_neg : nI 0 + (-1) < 0 := by decide
theorem hl_commit {N n0 : Nat} (hN : N < 1000) {ld ch av sn mu sy sg an so sk sb : Int32} {ss fp xc0 yc0 o0 k0 b0 d0 : Nat → Int32} :
    ∀ i c (xo xk xb xd xv xc yo yk yb yd yv yc : Nat → Int32), i ≤ c →
      hl_R (fun b d => b = nI N ∧ d = nI N) 0 n0 c xc0 yc0 o0 k0 b0 d0 xo xk xb xd xv xc yo yk yb yd yv yc →
      ∃ (c' : Nat) (xo' xk' xb' xd' xv' xc' yo' yk' yb' yd' yv' yc' : Nat → Int32),
        hl_R (fun b d => b = nI N ∧ d = nI N) 0 n0 c' xc0 yc0 o0 k0 b0 d0 xo' xk' xb' xd' xv' xc' yo' yk' yb' yd' yv' yc' ∧
        (∀ post : Int32 → SX → Prop, post (nI N) ((nI N), 0, av, sn, mu, sy, sg, an, so, sk, sb, xo', xk', xb', xd', xv', xc', ss, fp) → wX_commit_28 post (nI N) (i + 1) (nI i + (-1)) ld ch av sn mu sy sg an so sk sb xo xk xb xd xv xc ss fp) ∧
        (∀ post : Int32 → SY → Prop, post (nI N) ((nI N), 0, av, sn, mu, sy, sg, an, so, sk, sb, (hb_cp 0 200 c' yo'), (hb_cp 0 200 c' yk'), (hb_cp 0 200 c' yb'), (hb_cp 0 200 c' yd'), (hb_cp 0 200 c' yv'), (upd yc' 2 (nI c')), ss, fp) → wY_commit_31 post (i + 1) (nI i + (-1)) (nI N) ch av sn mu sy sg an so sk sb yo yk yb yd yv yc ss fp) := by
  intro i
  induction i with
  | zero =>
    intro c xo xk xb xd xv xc yo yk yb yd yv yc hi h
    refine ⟨c, xo, xk, xb, xd, xv, xc, yo, yk, yb, yd, yv, yc, h, fun post hp => br_t hl_neg hp, fun post hp => br_t hl_neg ?_⟩
    exact hy_copy (P := 0) (Q := 2) (c := c) (by omega) (by omega) (by omega) h.2.2.2.2.2.2.1 h.2.2.2.2.2.2.2.2.2.1 hp
  | succ i ih =>
    intro c xo xk xb xd xv xc yo yk yb yd yv yc hi h
    have hc := h.2.2.2.2.2.2.2.2.2.1
    have hvx : vp_in (nI i) 200 := vp_in_nI (by omega) (by omega)
    have hvy : vp_in (nI i) 300 := vp_in_nI (by omega) (by omega)
    have hb : xb i = yb i := h.2.2.1 i (by omega)
    have hd : xd i = yd i := h.2.2.2.1 i (by omega)
    by_cases hq : yb i = nI N ∧ yd i = nI N
    · obtain ⟨c, rfl⟩ : ∃ m, c = m + 1 := ⟨c - 1, by omega⟩
      have h' := hl_step (i := i) (by omega) h (by omega) (by omega) hq
      obtain ⟨c', xo', xk', xb', xd', xv', xc', yo', yk', yb', yd', yv', yc', g1, g2, g3⟩ := ih c _ _ _ _ _ _ _ _ _ _ _ _ (by omega) h'
      refine ⟨c', xo', xk', xb', xd', xv', xc', yo', yk', yb', yd', yv', yc', g1, fun post hp => ?_, fun post hp => ?_⟩
      · have g := g2 post hp
        rw [pk_m1]
        refine br_f (hb_nn (by omega)) ⟨hvx, ?_⟩
        rw [hb_cl (by omega), hb, hd]
        refine br_t hq.1 ⟨hvx, br_t hq.2 ?_⟩
        refine hx_take (V := 0) (c := c) (by omega) h.2.2.2.2.2.1 (by omega) (by omega) ?_
        exact nm_e g
      · have g := g3 post hp
        rw [pk_m1]
        refine br_f (hb_nn (by omega)) ⟨hvy, ?_⟩
        rw [hb_cl (by omega)]
        refine br_t hq.1 ⟨hvy, br_t hq.2 ?_⟩
        refine hy_take (V := 0) (c := c) (by omega) h.2.2.2.2.2.2.1 (by omega) (by omega) ?_
        exact nm_e g
    · obtain ⟨c', xo', xk', xb', xd', xv', xc', yo', yk', yb', yd', yv', yc', g1, g2, g3⟩ := ih c _ _ _ _ _ _ _ _ _ _ _ _ (by omega) h
      refine ⟨c', xo', xk', xb', xd', xv', xc', yo', yk', yb', yd', yv', yc', g1, fun post hp => ?_, fun post hp => ?_⟩
      · have g := g2 post hp
        rw [pk_m1]
        refine br_f (hb_nn (by omega)) ⟨hvx, ?_⟩
        rw [hb_cl (by omega), hb, hd]
        exact br_c (fun q1 => ⟨hvx, br_f (fun q2 => hq ⟨q1, q2⟩) (nm_e g)⟩) (fun q1 => nm_e g)
      · have g := g3 post hp
        rw [pk_m1]
        refine br_f (hb_nn (by omega)) ⟨hvy, ?_⟩
        rw [hb_cl (by omega)]
        exact br_c (fun q1 => ⟨hvy, br_f (fun q2 => hq ⟨q1, q2⟩) (nm_e g)⟩) (fun q1 => nm_e g)
def hb_un (i c : Nat) (w : Int32) (d : Nat → Int32) : Nat → Int32 := fun j => if i ≤ j ∧ j < c ∧ d j = w then 0 else d j
section
variable {ld ch av sn mu sy sg an so sk sb : Int32} {xo xk xb xd xv xc ss fp : Nat → Int32}
theorem hx_undo2 {c2 : Nat} {w : Int32} (hc : c2 ≤ 100) (hb : ∀ i, i < c2 → ¬ xb i = w) (post : Int32 → SX → Prop) (h : post ch (ld, 0, av, sn, mu, sy, sg, an, so, sk, sb, xo, xk, xb, (hb_un 0 c2 w xd), xv, xc, ss, fp)) :
    ∀ i, i ≤ c2 → wX_undoChanges_16 post w (i + 1) (nI i + (-1)) ld ch av sn mu sy sg an so sk sb xo xk xb (hb_un i c2 w xd) xv xc ss fp := by
  intro i
  induction i with
  | zero => intro hi; exact br_t hl_neg h
  | succ i ih =>
    intro hi
    have hv : vp_in (nI i) 200 := vp_in_nI (by omega) (by omega)
    have g := ih (by omega)
    rw [pk_m1]
    refine br_f (hb_nn (by omega)) ⟨hv, ?_⟩
    have e1 : hb_un (i + 1) c2 w xd i = xd i := if_neg (by omega)
    rw [hb_cl (by omega), e1]
    refine br_f (hb i (by omega)) ⟨hv, br_c (fun q => ⟨hv, nm_e ?_⟩) (fun q => ?_)⟩
    · have e2 : upd (hb_un (i + 1) c2 w xd) i 0 = hb_un i c2 w xd := by
        funext j
        unfold hb_un
        by_cases e : j = i
        · rw [e, pk_us, if_pos ⟨by omega, by omega, q⟩]
        · rw [pk_un e]
          by_cases z : i + 1 ≤ j ∧ j < c2 ∧ xd j = w
          · rw [if_pos z, if_pos ⟨by omega, z.2⟩]
          · rw [if_neg z, if_neg (fun y => z ⟨by omega, y.2⟩)]
      rw [e2]
      exact nm_e g
    · have e2 : hb_un (i + 1) c2 w xd = hb_un i c2 w xd := by
        funext j
        unfold hb_un
        by_cases e : j = i
        · rw [e, if_neg (by omega), if_neg (fun y => q y.2.2)]
        · by_cases z : i + 1 ≤ j ∧ j < c2 ∧ xd j = w
          · rw [if_pos z, if_pos ⟨by omega, z.2⟩]
          · rw [if_neg z, if_neg (fun y => z ⟨by omega, y.2⟩)]
      rw [e2]
      exact nm_e g
theorem hx_undo1 {c2 : Nat} {w a : Int32} (hb : ∀ i, i < c2 → ¬ xb i = w) (post : Int32 → SX → Prop)
    (h : ∀ xc', xc' 0 = nI c2 → xc' 1 = a → post ch (ld, 0, av, sn, mu, sy, sg, an, so, sk, sb, xo, xk, xb, (hb_un 0 c2 w xd), xv, xc', ss, fp)) :
    ∀ m, c2 + m ≤ 100 → (∀ i, c2 ≤ i → i < c2 + m → xb i = w) → ∀ xc : Nat → Int32, xc 0 = nI (c2 + m) → xc 1 = a → wX_undoChanges_16 post w (c2 + m + 1) (nI (c2 + m) + (-1)) ld ch av sn mu sy sg an so sk sb xo xk xb xd xv xc ss fp := by
  intro m
  induction m with
  | zero =>
    intro hc hw xc h0 h1
    have e : hb_un c2 c2 w xd = xd := by
      funext j
      unfold hb_un
      exact if_neg (by omega)
    have g := hx_undo2 (ld := ld) (ch := ch) (av := av) (sn := sn) (mu := mu) (sy := sy) (sg := sg) (an := an) (so := so) (sk := sk) (sb := sb) (xo := xo) (xk := xk) (xb := xb) (xd := xd) (xv := xv) (xc := xc) (ss := ss) (fp := fp) (c2 := c2) (w := w) (by omega) hb post (h xc h0 h1) c2 (Nat.le_refl c2)
    rw [e] at g
    exact g
  | succ m ih =>
    intro hc hw xc h0 h1
    have hv : vp_in (nI (c2 + m)) 200 := vp_in_nI (by omega) (by omega)
    have g := ih (by omega) (fun i q1 q2 => hw i q1 (by omega)) (upd xc 0 (nI (c2 + m))) pk_us (by rw [pk_un (by omega)]; exact h1)
    rw [show c2 + (m + 1) = c2 + m + 1 from rfl, pk_m1]
    refine br_f (hb_nn (by omega)) ⟨hv, ?_⟩
    rw [hb_cl (by omega)]
    refine br_t (hw _ (by omega) (by omega)) ?_
    refine hx_take (V := 0) (c := c2 + m) (by omega) h0 (by omega) (by omega) ?_
    rw [show 100 * 0 + (c2 + m) = c2 + m from by omega, hb_u_id, hb_u_id, hb_u_id, hb_u_id, hb_u_id]
    exact nm_e g
theorem hx_undo {N c0 c2 : Nat} {a : Int32} (hld : ld + 1 = nI N) (h2 : c2 ≤ c0) (h3 : c0 ≤ 100) (hb : ∀ i, i < c2 → ¬ xb i = nI N) (hw : ∀ i, c2 ≤ i → i < c0 → xb i = nI N) (h0 : xc 0 = nI c0) (h1 : xc 1 = a) {post : Int32 → SX → Prop}
    (h : ∀ xc', xc' 0 = nI c2 → xc' 1 = a → post ch (ld, 0, av, sn, mu, sy, sg, an, so, sk, sb, xo, xk, xb, (hb_un 0 c2 (nI N) xd), xv, xc', ss, fp)) : wpX_undoChanges post (ld, ch, av, sn, mu, sy, sg, an, so, sk, sb, xo, xk, xb, xd, xv, xc, ss, fp) := by
  unfold wpX_undoChanges
  dsimp only
  refine nm_r hld ?_
  refine nm_r (e' := nI c0 + (-1)) (by rw [h0, Int32.sub_eq_add_neg]) ?_
  obtain ⟨m, rfl⟩ : ∃ m, c0 = c2 + m := ⟨c0 - c2, by omega⟩
  exact ⟨c2 + m + 1, hx_undo1 hb post h m h3 hw xc h0 h1⟩
end
theorem hl_lt (n : Nat) (h : n < 1000) : nI n + (-1) < nI n := by
  cases n with
  | zero => decide
  | succ n => rw [pk_m1]; exact nI_lt (by omega) (by omega)
theorem hl_prune {D U L V S n0 : Nat} (hV : V < 2) (hS : S ≤ 4) (hD : D < 1000) (hUD : U ≤ D) (hL0 : V = 0 → L = U) (hL1 : V = 1 → L = D) {ch sy sg an so sk sb : Int32} {ss fp xc0 yc0 o0 k0 b0 d0 : Nat → Int32} :
    ∀ i c t (xo xk xb xd xv xc yo yk yb yd yv yc : Nat → Int32), i ≤ c →
      hl_R (fun _ d => d.toInt ≠ 0 ∧ d.toInt ≤ (L : Int)) V n0 c xc0 yc0 o0 k0 b0 d0 xo xk xb xd xv xc yo yk yb yd yv yc →
      ∃ (c' : Nat) (t' : Int32) (xo' xk' xb' xd' xv' xc' yo' yk' yb' yd' yv' yc' : Nat → Int32),
        hl_R (fun _ d => d.toInt ≠ 0 ∧ d.toInt ≤ (L : Int)) V n0 c' xc0 yc0 o0 k0 b0 d0 xo' xk' xb' xd' xv' xc' yo' yk' yb' yd' yv' yc' ∧
        (∀ post : Int32 → SX → Prop, post t' ((nI D), ch, (nI V), (nI S), (nI U), sy, sg, an, so, sk, sb, xo', xk', xb', xd', xv', xc', ss, fp) → wX_prune_55 post (nI L) (nI (100 * V)) (i + 1) t (nI (100 * V + i) + (-1)) (nI D) ch (nI V) (nI S) (nI U) sy sg an so sk sb xo xk xb xd xv xc ss fp) ∧
        (∀ post : Int32 → SY → Prop, ∀ e : Nat, e ≤ 100 → yc' 0 = nI e → post t' ((nI D), ch, (nI V), (nI S), (nI U), sy, sg, an, so, sk, sb, (hb_cp 0 200 e yo'), (hb_cp 0 200 e yk'), (hb_cp 0 200 e yb'), (hb_cp 0 200 e yd'), (hb_cp 0 200 e yv'), (upd yc' 2 (nI e)), ss, fp) → wY_prune_31 post (i + 1) t (nI (100 * V + i) + (-1)) (nI D) ch (nI V) (nI S) (nI U) sy sg an so sk sb yo yk yb yd yv yc ss fp) := by
  intro i
  induction i with
  | zero =>
    intro c t xo xk xb xd xv xc yo yk yb yd yv yc hi h
    refine ⟨c, t, xo, xk, xb, xd, xv, xc, yo, yk, yb, yd, yv, yc, h, fun post hp => br_t (hl_lt (100 * V) (by omega)) hp, fun post e he h0 hp => br_t (by rw [hy_100]; exact hl_lt (100 * V) (by omega)) ?_⟩
    exact hy_copy (P := 0) (Q := 2) (c := e) (by omega) (by omega) (by omega) h0 he hp
  | succ i ih =>
    intro c t xo xk xb xd xv xc yo yk yb yd yv yc hi h
    have hc := h.2.2.2.2.2.2.2.2.2.1
    have hvx : vp_in (nI (100 * V + i)) 200 := vp_in_nI (by omega) (by omega)
    have hvy : vp_in (nI (100 * V + i)) 300 := vp_in_nI (by omega) (by omega)
    have hb : xb (100 * V + i) = yb (100 * V + i) := h.2.2.1 _ (by omega)
    have hd : xd (100 * V + i) = yd (100 * V + i) := h.2.2.2.1 _ (by omega)
    have hlx : ¬ nI (100 * V + i) < nI (100 * V) := nI_nlt (by omega) (by omega)
    have hly : ¬ nI (100 * V + i) < 100 * nI V := by rw [hy_100]; exact hlx
    have his : hb_is xb xd ss S (100 * V + i) ↔ hb_is yb yd ss S (100 * V + i) := by
      unfold hb_is hb_vis
      rw [hb, hd]
    have hz : yd (100 * V + i) = 0 ↔ (yd (100 * V + i)).toInt = 0 := by rw [hb_eq, hb_0]
    have hDd : nI D < yd (100 * V + i) ↔ (D : Int) < (yd (100 * V + i)).toInt := by rw [hb_lt, nI_toInt (by omega)]
    have hLd : nI L < yd (100 * V + i) ↔ (L : Int) < (yd (100 * V + i)).toInt := by rw [hb_lt, nI_toInt (by omega)]
    by_cases hq : ((yd (100 * V + i)).toInt ≠ 0 ∧ (yd (100 * V + i)).toInt ≤ (L : Int)) ∧ ¬ hb_is yb yd ss S (100 * V + i)
    · obtain ⟨c, rfl⟩ : ∃ m, c = m + 1 := ⟨c - 1, by omega⟩
      have h' := hl_step (i := 100 * V + i) hV h (by omega) (by omega) hq.1
      obtain ⟨c', t', xo', xk', xb', xd', xv', xc', yo', yk', yb', yd', yv', yc', g1, g2, g3⟩ := ih c (t + 1) _ _ _ _ _ _ _ _ _ _ _ _ (by omega) h'
      refine ⟨c', t', xo', xk', xb', xd', xv', xc', yo', yk', yb', yd', yv', yc', g1, fun post hp => ?_, fun post e he h0 hp => ?_⟩
      · have g := g2 post hp
        rw [show 100 * V + (i + 1) = 100 * V + i + 1 from rfl, pk_m1]
        refine br_f hlx ⟨hvx, ?_⟩
        rw [hb_cl (by omega), hd]
        refine br_f (fun z => hq.1.1 (hz.mp z)) ⟨hvx, br_f (fun z => by have := hLd.mp z; omega) ?_⟩
        refine hx_is hS (by omega) rfl (fun z => (hq.2 (his.mp z)).elim) (fun _ => br_t rfl ?_)
        refine hx_take hV h.2.2.2.2.2.1 (by omega) (by omega) ?_
        exact nm_e (nm_e g)
      · have g := g3 post e he h0 hp
        rw [show 100 * V + (i + 1) = 100 * V + i + 1 from rfl, pk_m1]
        refine br_f hly ⟨hvy, ?_⟩
        rw [hb_cl (by omega)]
        refine br_f (fun z => hq.1.1 (hz.mp z)) ⟨hvy, br_f (fun z => by have := hDd.mp z; omega) ?_⟩
        refine hy_is rfl hV hS (by omega) rfl (by omega) rfl (fun z => (z.elim hq.2 (fun w => by have := hL0 w.1; omega)).elim) (fun _ => br_t rfl ?_)
        refine hy_take (by omega) h.2.2.2.2.2.2.1 (by omega) (by omega) ?_
        exact nm_e (nm_e g)
    · obtain ⟨c', t', xo', xk', xb', xd', xv', xc', yo', yk', yb', yd', yv', yc', g1, g2, g3⟩ := ih c t _ _ _ _ _ _ _ _ _ _ _ _ (by omega) h
      refine ⟨c', t', xo', xk', xb', xd', xv', xc', yo', yk', yb', yd', yv', yc', g1, fun post hp => ?_, fun post e he h0 hp => ?_⟩
      · have g := g2 post hp
        rw [show 100 * V + (i + 1) = 100 * V + i + 1 from rfl, pk_m1]
        refine br_f hlx ⟨hvx, ?_⟩
        rw [hb_cl (by omega), hd]
        refine br_c (fun _ => nm_e g) (fun z1 => ⟨hvx, br_c (fun _ => nm_e g) (fun z2 => ?_)⟩)
        refine hx_is hS (by omega) rfl (fun _ => br_f (by decide) (nm_e g)) (fun z3 => (hq ?_).elim)
        rw [hz] at z1
        rw [hLd] at z2
        exact ⟨⟨z1, by omega⟩, fun w => z3 (his.mpr w)⟩
      · have g := g3 post e he h0 hp
        rw [show 100 * V + (i + 1) = 100 * V + i + 1 from rfl, pk_m1]
        refine br_f hly ⟨hvy, ?_⟩
        rw [hb_cl (by omega)]
        refine br_c (fun _ => nm_e g) (fun z1 => ⟨hvy, br_c (fun _ => nm_e g) (fun z2 => ?_)⟩)
        refine hy_is rfl hV hS (by omega) rfl (by omega) rfl (fun _ => br_f (by decide) (nm_e g)) (fun z3 => (hq ?_).elim)
        rw [hz] at z1
        rw [hDd] at z2
        refine ⟨⟨z1, ?_⟩, fun w => z3 (Or.inl w)⟩
        by_cases e0 : V = 0
        · have := hL0 e0
          by_cases e1 : (U : Int) < (yd (100 * V + i)).toInt
          · exact (z3 (Or.inr ⟨e0, e1⟩)).elim
          · omega
        · have := hL1 (by omega)
          omega
