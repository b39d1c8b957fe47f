def hr_S (k D C V SN U G c0 c1 c2 : Nat) (sy an so sk sb : Int32) (xo xk xb xd xv xc yo yk yb yd yv yc : Nat → Int32) : Prop :=
  4 * D ≤ k ∧ V < 2 ∧ SN ≤ 4 ∧ hb_Ag xo yo ∧ hb_Ag xk yk ∧ hb_Ag xb yb ∧ hb_Ag xd yd ∧ hb_Ag xv yv ∧
  xc 0 = nI c0 ∧ xc 1 = nI c1 ∧ yc 0 = nI c0 ∧ yc 1 = nI c1 ∧ yc 2 = nI c2 ∧
  hp_Inv D C U G c0 c1 c2 (sy ≠ 0) (sy ≠ 0 ∧ an ≠ 0) yo yk yb yd yv so sk sb
/-- the relation: all single fields alike; the arrays alike below 200; the reference's third volume is what abort brings back -/
def i_Rel (k : Nat) (u : SX) (v : SY) : Prop :=
  ∃ (D C V SN U G c0 c1 c2 : Nat) (sy an so sk sb : Int32) (xo xk xb xd xv xc yo yk yb yd yv yc ss fp : Nat → Int32),
    u = ((nI D), (nI C), (nI V), (nI SN), (nI U), sy, (nI G), an, so, sk, sb, xo, xk, xb, xd, xv, xc, ss, fp) ∧ v = ((nI D), (nI C), (nI V), (nI SN), (nI U), sy, (nI G), an, so, sk, sb, yo, yk, yb, yd, yv, yc, ss, fp) ∧
    hr_S k D C V SN U G c0 c1 c2 sy an so sk sb xo xk xb xd xv xc yo yk yb yd yv yc
theorem hp_keep {D C U G U' G' c0 c1 c1' c2 : Nat} {S S1 S' S1' : Prop} {o k b d v o' k' b' d' v' : Nat → Int32} {x y z x' y' z' : Int32}
    (h : hp_Inv D C U G c0 c1 c2 S S1 o k b d v x y z) (hJ : hp_J D (D + 1) U' G' c0 c1' S' S1' o' k' b' d' x' y' z')
    (jo : ∀ i, i < 100 ∨ 200 ≤ i → o' i = o i) (jk : ∀ i, i < 100 ∨ 200 ≤ i → k' i = k i) (jb : ∀ i, i < 100 ∨ 200 ≤ i → b' i = b i) (jd : ∀ i, i < 100 ∨ 200 ≤ i → d' i = d i) (jv : ∀ i, i < 100 ∨ 200 ≤ i → v' i = v i) :
    hp_Inv D C U' G' c0 c1' c2 S' S1' o' k' b' d' v' x' y' z' := by
  obtain ⟨b1, bJ, ⟨s1, s2, s3⟩, b4⟩ := h
  have hc := hJ.1
  refine ⟨b1, hJ, ⟨s1, ?_, ?_⟩, fun z => ⟨(b4 z).1, ?_⟩⟩
  · intro i hi
    rw [jo i (by omega), jk i (by omega), jb i (by omega), jd i (by omega), jv i (by omega), jo (200 + i) (by omega), jk (200 + i) (by omega), jb (200 + i) (by omega), jd (200 + i) (by omega), jv (200 + i) (by omega)]
    exact s2 i hi
  · intro i h1 h2
    rw [jb i (by omega)]; exact s3 i h1 h2
  · intro i hi
    rw [jd i (by omega)]; exact (b4 z).2 i hi
def hs_w (g x : Int32) : Int32 := if x ≤ g then x else 0
section
variable {ld ch av sn mu sy sg an so sk sb : Int32} {xo xk xb xd xv xc ss fp : Nat → Int32}
theorem hx_98 {s : Nat} (hs : s < 100) {post : Int32 → SX → Prop} (h : post 1 (ld, ch, av, sn, mu, sy, sg, 1, (xo s), (xk s), (xb s), xo, xk, xb, xd, xv, xc, ss, fp)) : wX_sendRecord_98 post (nI s) ld ch av sn mu sy sg an so sk sb xo xk xb xd xv xc ss fp := by
  unfold wX_sendRecord_98
  have hv : vp_in (nI s) 200 := vp_in_nI (by omega) (by omega)
  rw [hb_cl (by omega)]
  exact ⟨hv, nm_e ⟨hv, nm_e ⟨hv, nm_e h⟩⟩⟩
theorem hx_23 {s : Nat} (hs : s < 100) {post : Int32 → SX → Prop} (h : wX_sendRecord_23 post (nI s) (hs_w sg (xd s)) ld ch av sn mu sy sg an so sk sb xo xk xb xd xv xc ss fp) : wpX_sendRecord post (ld, ch, av, sn, mu, sy, sg, an, so, sk, sb, xo, xk, xb, xd, xv, xc, ss, fp) (nI s) := by
  unfold wpX_sendRecord
  dsimp only
  have hv : vp_in (nI s) 200 := vp_in_nI (by omega) (by omega)
  rw [hb_cl (by omega)]
  unfold hs_w at h
  refine ⟨hv, br_c (fun z => ⟨hv, ?_⟩) (fun z => ?_)⟩
  · rw [if_pos z] at h; exact h
  · rw [if_neg z] at h; exact h
theorem hx_sendT {s c t : Nat} (hs : s < 100) (hc : xc 1 = nI c) (hl : c ≤ 100) (ht : hb_sc (hb_pb xo xk xb (xo s) (xk s) (xb s)) c 100 = some t) {post : Int32 → SX → Prop}
    (h : post 1 (ld, ch, av, sn, mu, sy, sg, 1, (xo s), (xk s), (xb s), xo, xk, xb, (upd xd t (hs_w sg (xd s))), xv, xc, ss, fp)) : wpX_sendRecord post (ld, ch, av, sn, mu, sy, sg, an, so, sk, sb, xo, xk, xb, xd, xv, xc, ss, fp) (nI s) := by
  refine hx_23 hs ?_
  unfold wX_sendRecord_23
  have hv : vp_in (nI s) 200 := vp_in_nI (by omega) (by omega)
  have hq := hb_sc_some ht
  rw [hb_cl (j := s) (by omega)]
  refine ⟨hv, hv, hv, ?_⟩
  refine hx_born (V := 1) (by omega) hc hl _ _ _ ?_
  rw [show 100 * 1 = 100 from rfl, ht]
  refine br_f (hb_n1 (by omega)) ⟨vp_in_nI (by omega) (by omega), ?_⟩
  rw [show hb_o (some t) = nI t from rfl, hb_cl (j := t) (by omega)]
  refine nm_e ?_
  exact hx_98 hs h
theorem hx_sendA {s c : Nat} (hs : s < 100) (hc : xc 1 = nI c) (hl : c < 100) (ht : hb_sc (hb_pb xo xk xb (xo s) (xk s) (xb s)) c 100 = none) {post : Int32 → SX → Prop}
    (h : post 1 (ld, ch, av, sn, mu, sy, sg, 1, (xo s), (xk s), (xb s), (upd xo (100 + c) (xo s)), (upd xk (100 + c) (xk s)), (upd xb (100 + c) (xb s)), (upd xd (100 + c) (hs_w sg (xd s))), (upd xv (100 + c) (xv s)), (upd xc 1 (nI (c + 1))), ss, fp)) : wpX_sendRecord post (ld, ch, av, sn, mu, sy, sg, an, so, sk, sb, xo, xk, xb, xd, xv, xc, ss, fp) (nI s) := by
  refine hx_23 hs ?_
  unfold wX_sendRecord_23
  have hv : vp_in (nI s) 200 := vp_in_nI (by omega) (by omega)
  rw [hb_cl (j := s) (by omega)]
  refine ⟨hv, hv, hv, ?_⟩
  refine hx_born (V := 1) (by omega) hc (by omega) _ _ _ ?_
  rw [show 100 * 1 = 100 from rfl, ht]
  refine br_t rfl ⟨hv, hv, hv, hv, ?_⟩
  refine hx_add (V := 1) (by omega) hc hl _ _ _ _ _ ?_
  refine br_f (by decide) ?_
  refine hx_98 hs ?_
  rw [pk_un (by omega), pk_un (by omega), pk_un (by omega)]
  exact h
theorem hx_sendF {s c : Nat} (hs : s < 100) (hc : xc 1 = nI c) (hl : c = 100) (ht : hb_sc (hb_pb xo xk xb (xo s) (xk s) (xb s)) c 100 = none) {post : Int32 → SX → Prop}
    (h : post 0 (ld, ch, av, sn, mu, sy, sg, an, so, sk, sb, xo, xk, xb, xd, xv, xc, ss, fp)) : wpX_sendRecord post (ld, ch, av, sn, mu, sy, sg, an, so, sk, sb, xo, xk, xb, xd, xv, xc, ss, fp) (nI s) := by
  refine hx_23 hs ?_
  unfold wX_sendRecord_23
  have hv : vp_in (nI s) 200 := vp_in_nI (by omega) (by omega)
  rw [hb_cl (j := s) (by omega)]
  refine ⟨hv, hv, hv, ?_⟩
  refine hx_born (V := 1) (by omega) hc (by omega) _ _ _ ?_
  rw [show 100 * 1 = 100 from rfl, ht]
  refine br_t rfl ⟨hv, hv, hv, hv, ?_⟩
  refine hx_addF (V := 1) (by omega) hc hl _ _ _ _ _ ?_
  exact br_t rfl h
end
section
variable {ld ch av sn mu sy sg an so sk sb : Int32} {yo yk yb yd yv yc ss fp : Nat → Int32}
theorem hy_188 {U G c0 s : Nat} (hU : U < 1000) (hG : G < 1000) (hs : s < 100) (hc : yc 0 = nI c0) (hl : c0 ≤ 100) (post : Int32 → SY → Prop) (J : Int32 → Int32 → Int32 → Int32 → Int32 → Int32 → Int32 → Int32 → Int32 → Int32 → Int32 → Int32 → Int32 → (Nat → Int32) → (Nat → Int32) → (Nat → Int32) → (Nat → Int32) → (Nat → Int32) → (Nat → Int32) → (Nat → Int32) → (Nat → Int32) → Prop) (x1 : Int32) (n : Nat)
    (h : J (nI (n + 1)) (hb_o (hb_bs (hs_p U G 1 yo yk yb yd (yo s) (yk s) (yb s)) (hs_lY yo yk yb) c0 0 none)) ld ch av sn (nI U) sy (nI G) 1 (yo s) (yk s) (yb s) yo yk yb yd yv yc ss fp) :
    wY_sync_188 post J x1 (nI n) (nI s) ld ch av sn (nI U) sy (nI G) an so sk sb yo yk yb yd yv yc ss fp := by
  unfold wY_sync_188
  have hv : vp_in (nI s) 300 := vp_in_nI (by omega) (by omega)
  rw [hb_cl (by omega)]
  refine ⟨hv, nm_e ⟨hv, nm_e ⟨hv, nm_e (nm_r (nI_1 n) ?_)⟩⟩⟩
  exact hy_send hU hG hc hl h
theorem hy_115 {s : Nat} (hs : s < 100) (post : Int32 → SY → Prop) (J : Int32 → Int32 → Int32 → Int32 → Int32 → Int32 → Int32 → Int32 → Int32 → Int32 → Int32 → Int32 → Int32 → (Nat → Int32) → (Nat → Int32) → (Nat → Int32) → (Nat → Int32) → (Nat → Int32) → (Nat → Int32) → (Nat → Int32) → (Nat → Int32) → Prop) (x1 x2 x4 : Int32)
    (h : wY_sync_138 post J x1 x2 (nI s) x4 (hs_w sg (yd s)) ld ch av sn mu sy sg an so sk sb yo yk yb yd yv yc ss fp) : wY_sync_115 post J x1 x2 (nI s) x4 ld ch av sn mu sy sg an so sk sb yo yk yb yd yv yc ss fp := by
  unfold wY_sync_115
  have hv : vp_in (nI s) 300 := vp_in_nI (by omega) (by omega)
  rw [hb_cl (by omega)]
  unfold hs_w at h
  refine ⟨hv, br_c (fun z => ⟨hv, ?_⟩) (fun z => ?_)⟩
  · rw [if_pos z] at h; exact h
  · rw [if_neg z] at h; exact h
end
