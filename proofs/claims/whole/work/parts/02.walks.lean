section
variable {ld ch av sn mu sy sg an so sk sb : Int32} {xo xk xb xd xv xc ss fp : Nat → Int32}
theorem hx_first {V : Nat} (hV : V < 2) {post : Int32 → Prop} (h : post (nI (100 * V))) : wpX_firstSlot post (ld, ch, av, sn, mu, sy, sg, an, so, sk, sb, xo, xk, xb, xd, xv, xc, ss, fp) (nI V) := by
  unfold wpX_firstSlot
  dsimp only
  match V, hV, h with
  | 0, _, h => exact br_t nI_0 h
  | 1, _, h => exact br_f (by decide) h
theorem hx_end {V c : Nat} (hV : V < 2) (hc : xc V = nI c) {post : Int32 → Prop} (h : post (nI (100 * V + c))) : wpX_endSlot post (ld, ch, av, sn, mu, sy, sg, an, so, sk, sb, xo, xk, xb, xd, xv, xc, ss, fp) (nI V) := by
  unfold wpX_endSlot
  dsimp only
  refine hx_first hV ⟨vp_in_nI hV (by omega), ?_⟩
  rw [hb_cl (by omega), hc, nI_add]
  exact h
def hb_pb (o k b : Nat → Int32) (x y z : Int32) : Nat → Bool := fun l => decide (o l = x ∧ k l = y ∧ b l = z)
def hb_vis (b d : Nat → Int32) (t : Int32) (l : Nat) : Bool := decide (¬ t < b l ∧ (d l = 0 ∨ ¬ d l ≤ t))
def hb_pv (o k b d : Nat → Int32) (x y t : Int32) : Nat → Bool := fun l => decide (o l = x ∧ k l = y ∧ hb_vis b d t l = true)
theorem hx_bornL (o k b : Int32) {e : Nat} (he : e ≤ 200) : ∀ d j, j + d = e → ∀ post : Int32 → Prop, post (hb_o (hb_sc (hb_pb xo xk xb o k b) d j)) → wX_slotBornAt_18 post o k b (nI e) ld ch av sn mu sy sg an so sk sb xo xk xb xd xv xc ss fp (d + 1) (nI j) := by
  intro d
  induction d with
  | zero =>
    intro j hj post h
    exact br_t (nI_le (by omega) (by omega)) h
  | succ d ih =>
    intro j hj post h
    have hi : vp_in (nI j) 200 := vp_in_nI (by omega) (by omega)
    have hc : (nI j).toNatClampNeg = j := nI_clamp (by omega)
    refine br_f (nI_ge (by omega) (by omega)) ⟨hi, ?_⟩
    rw [hc]
    by_cases hp : hb_pb xo xk xb o k b j = true
    · rw [hb_sc_t hp] at h
      have hq := of_decide_eq_true hp
      exact br_t hq.1 ⟨hi, br_t hq.2.1 ⟨hi, br_t hq.2.2 h⟩⟩
    · rw [hb_sc_f hp] at h
      have hn := nm_r (P := fun x => wX_slotBornAt_18 post o k b (nI e) ld ch av sn mu sy sg an so sk sb xo xk xb xd xv xc ss fp (d + 1) x) (nI_1 j) (ih (j + 1) (by omega) post h)
      have hq : ¬ (xo j = o ∧ xk j = k ∧ xb j = b) := fun z => hp (decide_eq_true z)
      exact br_c (fun h1 => ⟨hi, br_c (fun h2 => ⟨hi, br_f (fun h3 => hq ⟨h1, h2, h3⟩) hn⟩) (fun _ => hn)⟩) (fun _ => hn)
theorem hx_born {V c : Nat} (hV : V < 2) (hc : xc V = nI c) (hl : c ≤ 100) (o k b : Int32) {post : Int32 → Prop} (h : post (hb_o (hb_sc (hb_pb xo xk xb o k b) c (100 * V)))) : wpX_slotBornAt post (ld, ch, av, sn, mu, sy, sg, an, so, sk, sb, xo, xk, xb, xd, xv, xc, ss, fp) (nI V) o k b := by
  unfold wpX_slotBornAt
  dsimp only
  refine hx_first hV ?_
  refine hx_end hV hc ?_
  exact ⟨_, hx_bornL o k b (by omega) c (100 * V) rfl post h⟩
theorem hx_vis {j : Nat} (hj : j < 200) (t : Int32) {post : Int32 → Prop} (h : post (if hb_vis xb xd t j = true then 1 else 0)) : wpX_isVisible post (ld, ch, av, sn, mu, sy, sg, an, so, sk, sb, xo, xk, xb, xd, xv, xc, ss, fp) (nI j) t := by
  unfold wpX_isVisible
  dsimp only
  have hi : vp_in (nI j) 200 := vp_in_nI hj (by omega)
  rw [hb_cl (by omega)]
  by_cases h1 : t < xb j
  · rw [if_neg (fun z => (of_decide_eq_true z).1 h1)] at h
    exact ⟨hi, br_t h1 h⟩
  · by_cases h2 : xd j = 0
    · rw [if_pos (show hb_vis xb xd t j = true from decide_eq_true ⟨h1, Or.inl h2⟩)] at h
      exact ⟨hi, br_f h1 ⟨hi, br_t h2 h⟩⟩
    · by_cases h3 : xd j ≤ t
      · rw [if_neg (fun z => (of_decide_eq_true z).2.elim h2 (fun y => y h3))] at h
        exact ⟨hi, br_f h1 ⟨hi, br_f h2 ⟨hi, br_t h3 h⟩⟩⟩
      · rw [if_pos (show hb_vis xb xd t j = true from decide_eq_true ⟨h1, Or.inr h3⟩)] at h
        exact ⟨hi, br_f h1 ⟨hi, br_f h2 ⟨hi, br_f h3 h⟩⟩⟩
theorem hx_seenL (o k t : Int32) {e : Nat} (he : e ≤ 200) : ∀ d j, j + d = e → ∀ post : Int32 → Prop, post (hb_o (hb_sc (hb_pv xo xk xb xd o k t) d j)) → wX_slotVisibleAt_18 post o k t (nI e) ld ch av sn mu sy sg an so sk sb xo xk xb xd xv xc ss fp (d + 1) (nI j) := by
  intro d
  induction d with
  | zero =>
    intro j hj post h
    exact br_t (nI_le (by omega) (by omega)) h
  | succ d ih =>
    intro j hj post h
    have hi : vp_in (nI j) 200 := vp_in_nI (by omega) (by omega)
    have hc : (nI j).toNatClampNeg = j := nI_clamp (by omega)
    refine br_f (nI_ge (by omega) (by omega)) ⟨hi, ?_⟩
    rw [hc]
    by_cases hp : hb_pv xo xk xb xd o k t j = true
    · rw [hb_sc_t hp] at h
      have hq := of_decide_eq_true hp
      exact br_t hq.1 ⟨hi, br_t hq.2.1 (hx_vis (by omega) t (by rw [if_pos hq.2.2]; exact br_f (by decide) h))⟩
    · rw [hb_sc_f hp] at h
      have hn := nm_r (P := fun x => wX_slotVisibleAt_18 post o k t (nI e) ld ch av sn mu sy sg an so sk sb xo xk xb xd xv xc ss fp (d + 1) x) (nI_1 j) (ih (j + 1) (by omega) post h)
      have hq : ¬ (xo j = o ∧ xk j = k ∧ hb_vis xb xd t j = true) := fun z => hp (decide_eq_true z)
      exact br_c (fun h1 => ⟨hi, br_c (fun h2 => hx_vis (by omega) t (by rw [if_neg (fun h3 => hq ⟨h1, h2, h3⟩)]; exact br_t rfl hn)) (fun _ => hn)⟩) (fun _ => hn)
theorem hx_seen {V c : Nat} (hV : V < 2) (hc : xc V = nI c) (hl : c ≤ 100) (o k t : Int32) {post : Int32 → Prop} (h : post (hb_o (hb_sc (hb_pv xo xk xb xd o k t) c (100 * V)))) : wpX_slotVisibleAt post (ld, ch, av, sn, mu, sy, sg, an, so, sk, sb, xo, xk, xb, xd, xv, xc, ss, fp) (nI V) o k t := by
  unfold wpX_slotVisibleAt
  dsimp only
  refine hx_first hV ?_
  refine hx_end hV hc ?_
  exact ⟨_, hx_seenL o k t (by omega) c (100 * V) rfl post h⟩
theorem hx_add {V c : Nat} (hV : V < 2) (hc : xc V = nI c) (hl : c < 100) (o k b d v : Int32) {post : Int32 → SX → Prop}
    (h : post 1 (ld, ch, av, sn, mu, sy, sg, an, so, sk, sb, (upd xo (100 * V + c) o), (upd xk (100 * V + c) k), (upd xb (100 * V + c) b), (upd xd (100 * V + c) d), (upd xv (100 * V + c) v), (upd xc V (nI (c + 1))), ss, fp)) : wpX_addRecord post (ld, ch, av, sn, mu, sy, sg, an, so, sk, sb, xo, xk, xb, xd, xv, xc, ss, fp) (nI V) o k b d v := by
  unfold wpX_addRecord
  dsimp only
  have hv : vp_in (nI V) 2 := vp_in_nI hV (by omega)
  have hi : vp_in (nI (100 * V + c)) 200 := vp_in_nI (by omega) (by omega)
  rw [hb_cl (j := V) (by omega), hc]
  refine ⟨hv, br_t (nI_lt (b := 100) hl (by omega)) ?_⟩
  refine hx_end hV hc ?_
  rw [hb_cl (j := 100 * V + c) (by omega)]
  exact ⟨hi, nm_e ⟨hi, nm_e ⟨hi, nm_e ⟨hi, nm_e ⟨hi, nm_e ⟨hv, hv, nm_r (by rw [nI_1]) h⟩⟩⟩⟩⟩⟩
theorem hx_addF {V c : Nat} (hV : V < 2) (hc : xc V = nI c) (hl : c = 100) (o k b d v : Int32) {post : Int32 → SX → Prop}
    (h : post 0 (ld, ch, av, sn, mu, sy, sg, an, so, sk, sb, xo, xk, xb, xd, xv, xc, ss, fp)) : wpX_addRecord post (ld, ch, av, sn, mu, sy, sg, an, so, sk, sb, xo, xk, xb, xd, xv, xc, ss, fp) (nI V) o k b d v := by
  unfold wpX_addRecord
  dsimp only
  have hv : vp_in (nI V) 2 := vp_in_nI hV (by omega)
  rw [hb_cl (j := V) (by omega), hc]
  exact ⟨hv, br_f (nI_nlt (b := 100) (by omega) (by omega)) h⟩
theorem hx_take {V c i : Nat} (hV : V < 2) (hc : xc V = nI (c + 1)) (hl : c < 100) (hi : i < 200) {post : SX → Prop}
    (h : post (ld, ch, av, sn, mu, sy, sg, an, so, sk, sb, (upd xo i (xo (100 * V + c))), (upd xk i (xk (100 * V + c))), (upd xb i (xb (100 * V + c))), (upd xd i (xd (100 * V + c))), (upd xv i (xv (100 * V + c))), (upd xc V (nI c)), ss, fp)) : wpX_takeAway post (ld, ch, av, sn, mu, sy, sg, an, so, sk, sb, xo, xk, xb, xd, xv, xc, ss, fp) (nI V) (nI i) := by
  unfold wpX_takeAway
  dsimp only
  have hv : vp_in (nI V) 2 := vp_in_nI hV (by omega)
  have hs : vp_in (nI (100 * V + c)) 200 := vp_in_nI (by omega) (by omega)
  have ht : vp_in (nI i) 200 := vp_in_nI (by omega) (by omega)
  rw [hb_cl (j := V) (by omega), hc, hb_dec]
  refine ⟨hv, hv, nm_e ?_⟩
  refine hx_end (c := c) hV pk_us ?_
  rw [hb_cl (j := 100 * V + c) (by omega), hb_cl (j := i) (by omega)]
  exact ⟨hs, ht, nm_e ⟨hs, ht, nm_e ⟨hs, ht, nm_e ⟨hs, ht, nm_e ⟨hs, ht, nm_e h⟩⟩⟩⟩⟩
end
section
variable {ld ch av sn mu sy sg an so sk sb : Int32} {yo yk yb yd yv yc ss fp : Nat → Int32}
theorem hy_100 (V : Nat) : (100 : Int32) * nI V = nI (100 * V) := pk_mul 100 V
theorem hy_bornL {V c : Nat} (hV : V < 3) (hcc : yc V = nI c) (hl : c ≤ 100) (o k b : Int32) : ∀ d j, j + d = 100 * V + c → ∀ post : Int32 → Prop, post (hb_o (hb_sc (hb_pb yo yk yb o k b) d j)) → wY_bornAt_6 post (nI V) o k b ld ch av sn mu sy sg an so sk sb yo yk yb yd yv yc ss fp (d + 1) (nI j) := by
  have hv : vp_in (nI V) 3 := vp_in_nI hV (by omega)
  have he : (100 : Int32) * nI V + yc (nI V).toNatClampNeg = nI (100 * V + c) := by
    rw [hy_100, hb_cl (by omega), hcc, nI_add]
  intro d
  induction d with
  | zero =>
    intro j hj post h
    refine ⟨hv, ?_⟩
    rw [he]
    exact br_t (nI_le (by omega) (by omega)) h
  | succ d ih =>
    intro j hj post h
    have hi : vp_in (nI j) 300 := vp_in_nI (by omega) (by omega)
    have hc : (nI j).toNatClampNeg = j := nI_clamp (by omega)
    refine ⟨hv, ?_⟩
    rw [he]
    refine br_f (nI_ge (by omega) (by omega)) ⟨hi, ?_⟩
    rw [hc]
    by_cases hp : hb_pb yo yk yb o k b j = true
    · rw [hb_sc_t hp] at h
      have hq := of_decide_eq_true hp
      exact br_t hq.1 ⟨hi, br_t hq.2.1 ⟨hi, br_t hq.2.2 h⟩⟩
    · rw [hb_sc_f hp] at h
      have hn := nm_r (P := fun x => wY_bornAt_6 post (nI V) o k b ld ch av sn mu sy sg an so sk sb yo yk yb yd yv yc ss fp (d + 1) x) (nI_1 j) (ih (j + 1) (by omega) post h)
      have hq : ¬ (yo j = o ∧ yk j = k ∧ yb j = b) := fun z => hp (decide_eq_true z)
      exact br_c (fun h1 => ⟨hi, br_c (fun h2 => ⟨hi, br_f (fun h3 => hq ⟨h1, h2, h3⟩) hn⟩) (fun _ => hn)⟩) (fun _ => hn)
theorem hy_born {V c : Nat} (hV : V < 3) (hc : yc V = nI c) (hl : c ≤ 100) (o k b : Int32) {post : Int32 → Prop} (h : post (hb_o (hb_sc (hb_pb yo yk yb o k b) c (100 * V)))) : wpY_bornAt post (ld, ch, av, sn, mu, sy, sg, an, so, sk, sb, yo, yk, yb, yd, yv, yc, ss, fp) (nI V) o k b := by
  unfold wpY_bornAt
  dsimp only
  refine nm_r (hy_100 V) ?_
  exact ⟨_, hy_bornL hV hc hl o k b c (100 * V) rfl post h⟩
theorem hy_vis {j : Nat} (hj : j < 300) (t : Int32) {post : Int32 → Prop} (h : post (if hb_vis yb yd t j = true then 1 else 0)) : wpY_visible post (ld, ch, av, sn, mu, sy, sg, an, so, sk, sb, yo, yk, yb, yd, yv, yc, ss, fp) (nI j) t := by
  unfold wpY_visible
  dsimp only
  have hi : vp_in (nI j) 300 := vp_in_nI hj (by omega)
  rw [hb_cl (by omega)]
  by_cases h1 : t < yb j
  · rw [if_neg (fun z => (of_decide_eq_true z).1 h1)] at h
    exact ⟨hi, br_t h1 h⟩
  · by_cases h2 : yd j = 0
    · rw [if_pos (show hb_vis yb yd t j = true from decide_eq_true ⟨h1, Or.inl h2⟩)] at h
      exact ⟨hi, br_f h1 ⟨hi, br_t h2 h⟩⟩
    · by_cases h3 : yd j ≤ t
      · rw [if_neg (fun z => (of_decide_eq_true z).2.elim h2 (fun y => y h3))] at h
        exact ⟨hi, br_f h1 ⟨hi, br_f h2 ⟨hi, br_t h3 h⟩⟩⟩
      · rw [if_pos (show hb_vis yb yd t j = true from decide_eq_true ⟨h1, Or.inr h3⟩)] at h
        exact ⟨hi, br_f h1 ⟨hi, br_f h2 ⟨hi, br_f h3 h⟩⟩⟩
theorem hy_seenL {V c : Nat} (hV : V < 3) (hcc : yc V = nI c) (hl : c ≤ 100) (o k t : Int32) : ∀ d j, j + d = 100 * V + c → ∀ post : Int32 → Prop, post (hb_o (hb_sc (hb_pv yo yk yb yd o k t) d j)) → wY_seen_6 post (nI V) o k t ld ch av sn mu sy sg an so sk sb yo yk yb yd yv yc ss fp (d + 1) (nI j) := by
  have hv : vp_in (nI V) 3 := vp_in_nI hV (by omega)
  have he : (100 : Int32) * nI V + yc (nI V).toNatClampNeg = nI (100 * V + c) := by
    rw [hy_100, hb_cl (by omega), hcc, nI_add]
  intro d
  induction d with
  | zero =>
    intro j hj post h
    refine ⟨hv, ?_⟩
    rw [he]
    exact br_t (nI_le (by omega) (by omega)) h
  | succ d ih =>
    intro j hj post h
    have hi : vp_in (nI j) 300 := vp_in_nI (by omega) (by omega)
    have hc : (nI j).toNatClampNeg = j := nI_clamp (by omega)
    refine ⟨hv, ?_⟩
    rw [he]
    refine br_f (nI_ge (by omega) (by omega)) ⟨hi, ?_⟩
    rw [hc]
    by_cases hp : hb_pv yo yk yb yd o k t j = true
    · rw [hb_sc_t hp] at h
      have hq := of_decide_eq_true hp
      exact br_t hq.1 ⟨hi, br_t hq.2.1 (hy_vis (by omega) t (by rw [if_pos hq.2.2]; exact br_f (by decide) h))⟩
    · rw [hb_sc_f hp] at h
      have hn := nm_r (P := fun x => wY_seen_6 post (nI V) o k t ld ch av sn mu sy sg an so sk sb yo yk yb yd yv yc ss fp (d + 1) x) (nI_1 j) (ih (j + 1) (by omega) post h)
      have hq : ¬ (yo j = o ∧ yk j = k ∧ hb_vis yb yd t j = true) := fun z => hp (decide_eq_true z)
      exact br_c (fun h1 => ⟨hi, br_c (fun h2 => hy_vis (by omega) t (by rw [if_neg (fun h3 => hq ⟨h1, h2, h3⟩)]; exact br_t rfl hn)) (fun _ => hn)⟩) (fun _ => hn)
theorem hy_seen {V c : Nat} (hV : V < 3) (hc : yc V = nI c) (hl : c ≤ 100) (o k t : Int32) {post : Int32 → Prop} (h : post (hb_o (hb_sc (hb_pv yo yk yb yd o k t) c (100 * V)))) : wpY_seen post (ld, ch, av, sn, mu, sy, sg, an, so, sk, sb, yo, yk, yb, yd, yv, yc, ss, fp) (nI V) o k t := by
  unfold wpY_seen
  dsimp only
  refine nm_r (hy_100 V) ?_
  exact ⟨_, hy_seenL hV hc hl o k t c (100 * V) rfl post h⟩
theorem hy_add {V c : Nat} (hV : V < 3) (hc : yc V = nI c) (hl : c < 100) (o k b d v : Int32) {post : SY → Prop}
    (h : post (ld, ch, av, sn, mu, sy, sg, an, so, sk, sb, (upd yo (100 * V + c) o), (upd yk (100 * V + c) k), (upd yb (100 * V + c) b), (upd yd (100 * V + c) d), (upd yv (100 * V + c) v), (upd yc V (nI (c + 1))), ss, fp)) : wpY_add post (ld, ch, av, sn, mu, sy, sg, an, so, sk, sb, yo, yk, yb, yd, yv, yc, ss, fp) (nI V) o k b d v := by
  unfold wpY_add
  dsimp only
  have hv : vp_in (nI V) 3 := vp_in_nI hV (by omega)
  have hi : vp_in (nI (100 * V + c)) 300 := vp_in_nI (by omega) (by omega)
  rw [hb_cl (j := V) (by omega), hc, nI_1]
  refine ⟨hv, hv, nm_e ?_⟩
  refine nm_r (e' := nI (100 * V + c)) (by rw [hy_100, nI_add]) ?_
  rw [hb_cl (j := 100 * V + c) (by omega)]
  exact ⟨hi, nm_e ⟨hi, nm_e ⟨hi, nm_e ⟨hi, nm_e ⟨hi, nm_e h⟩⟩⟩⟩⟩
theorem hy_copyR {s t : Nat} (hs : s < 300) (ht : t < 300) {post : SY → Prop}
    (h : post (ld, ch, av, sn, mu, sy, sg, an, so, sk, sb, (upd yo t (yo s)), (upd yk t (yk s)), (upd yb t (yb s)), (upd yd t (yd s)), (upd yv t (yv s)), yc, ss, fp)) : wpY_copyRecord post (ld, ch, av, sn, mu, sy, sg, an, so, sk, sb, yo, yk, yb, yd, yv, yc, ss, fp) (nI s) (nI t) := by
  unfold wpY_copyRecord
  dsimp only
  have h1 : vp_in (nI s) 300 := vp_in_nI hs (by omega)
  have h2 : vp_in (nI t) 300 := vp_in_nI ht (by omega)
  rw [hb_cl (j := s) (by omega), hb_cl (j := t) (by omega)]
  exact ⟨h1, h2, nm_e ⟨h1, h2, nm_e ⟨h1, h2, nm_e ⟨h1, h2, nm_e ⟨h1, h2, nm_e h⟩⟩⟩⟩⟩
theorem hy_take {V c i : Nat} (hV : V < 3) (hc : yc V = nI (c + 1)) (hl : c < 100) (hi : i < 300) {post : SY → Prop}
    (h : post (ld, ch, av, sn, mu, sy, sg, an, so, sk, sb, (upd yo i (yo (100 * V + c))), (upd yk i (yk (100 * V + c))), (upd yb i (yb (100 * V + c))), (upd yd i (yd (100 * V + c))), (upd yv i (yv (100 * V + c))), (upd yc V (nI c)), ss, fp)) : wpY_take post (ld, ch, av, sn, mu, sy, sg, an, so, sk, sb, yo, yk, yb, yd, yv, yc, ss, fp) (nI V) (nI i) := by
  unfold wpY_take
  dsimp only
  have hv : vp_in (nI V) 3 := vp_in_nI hV (by omega)
  rw [hb_cl (j := V) (by omega), hc, hb_dec]
  refine ⟨hv, hv, nm_e ?_⟩
  refine nm_r (e' := nI (100 * V + c)) (by rw [hy_100, nI_add]) ?_
  exact hy_copyR (by omega) hi h
theorem hb_cp_s (s t c : Nat) (a : Nat → Int32) (hst : s + 100 ≤ t ∨ t + 100 ≤ s) (hc : c < 100) : upd (hb_cp s t c a) (t + c) (hb_cp s t c a (s + c)) = hb_cp s t (c + 1) a := by
  funext j
  unfold hb_cp
  by_cases e : j = t + c
  · rw [e, pk_us, if_neg (by omega), if_pos (by omega)]
    exact congrArg a (by omega)
  · rw [pk_un e]
    by_cases h : t ≤ j ∧ j < t + c
    · rw [if_pos h, if_pos (by omega)]
    · rw [if_neg h, if_neg (by omega)]
theorem hb_cp_0 (s t : Nat) (a : Nat → Int32) : hb_cp s t 0 a = a := by
  funext j
  unfold hb_cp
  exact if_neg (by omega)
theorem hy_copyL {P Q c : Nat} (hP : P < 3) (hQ : Q < 3) (hPQ : P ≠ Q) (hcc : yc P = nI c) (hl : c ≤ 100) (post : SY → Prop)
    (h : post (ld, ch, av, sn, mu, sy, sg, an, so, sk, sb, (hb_cp (100 * P) (100 * Q) c yo), (hb_cp (100 * P) (100 * Q) c yk), (hb_cp (100 * P) (100 * Q) c yb), (hb_cp (100 * P) (100 * Q) c yd), (hb_cp (100 * P) (100 * Q) c yv), yc, ss, fp)) :
    ∀ d j, j + d = c → wY_copyVolume_14 post (nI P) (nI Q) (d + 1) (nI j) ld ch av sn mu sy sg an so sk sb (hb_cp (100 * P) (100 * Q) j yo) (hb_cp (100 * P) (100 * Q) j yk) (hb_cp (100 * P) (100 * Q) j yb) (hb_cp (100 * P) (100 * Q) j yd) (hb_cp (100 * P) (100 * Q) j yv) yc ss fp := by
  have hv : vp_in (nI P) 3 := vp_in_nI hP (by omega)
  have he : yc (nI P).toNatClampNeg = nI c := by rw [hb_cl (by omega), hcc]
  intro d
  induction d with
  | zero =>
    intro j hj
    have ej : j = c := by omega
    subst ej
    refine ⟨hv, ?_⟩
    rw [he]
    exact br_t (nI_le (by omega) (by omega)) h
  | succ d ih =>
    intro j hj
    refine ⟨hv, ?_⟩
    rw [he]
    refine br_f (nI_ge (by omega) (by omega)) ?_
    rw [hy_100, hy_100, nI_add, nI_add]
    refine hy_copyR (by omega) (by omega) ?_
    refine nm_r (nI_1 j) ?_
    rw [hb_cp_s _ _ _ _ (by omega) (by omega), hb_cp_s _ _ _ _ (by omega) (by omega), hb_cp_s _ _ _ _ (by omega) (by omega), hb_cp_s _ _ _ _ (by omega) (by omega), hb_cp_s _ _ _ _ (by omega) (by omega)]
    exact ih (j + 1) (by omega)
theorem hy_copy {P Q c : Nat} (hP : P < 3) (hQ : Q < 3) (hPQ : P ≠ Q) (hcc : yc P = nI c) (hl : c ≤ 100) {post : SY → Prop}
    (h : post (ld, ch, av, sn, mu, sy, sg, an, so, sk, sb, (hb_cp (100 * P) (100 * Q) c yo), (hb_cp (100 * P) (100 * Q) c yk), (hb_cp (100 * P) (100 * Q) c yb), (hb_cp (100 * P) (100 * Q) c yd), (hb_cp (100 * P) (100 * Q) c yv), (upd yc Q (nI c)), ss, fp)) : wpY_copyVolume post (ld, ch, av, sn, mu, sy, sg, an, so, sk, sb, yo, yk, yb, yd, yv, yc, ss, fp) (nI P) (nI Q) := by
  unfold wpY_copyVolume
  dsimp only
  have hv : vp_in (nI P) 3 := vp_in_nI hP (by omega)
  have hw : vp_in (nI Q) 3 := vp_in_nI hQ (by omega)
  rw [hb_cl (j := P) (by omega), hb_cl (j := Q) (by omega), hcc]
  refine ⟨hv, hw, nm_e ⟨c + 1, ?_⟩⟩
  have H := hy_copyL (ld := ld) (ch := ch) (av := av) (sn := sn) (mu := mu) (sy := sy) (sg := sg) (an := an) (so := so) (sk := sk) (sb := sb) (yo := yo) (yk := yk) (yb := yb) (yd := yd) (yv := yv) (yc := upd yc Q (nI c)) (ss := ss) (fp := fp) hP hQ hPQ (by rw [pk_un hPQ]; exact hcc) hl post h c 0 (by omega)
  rw [hb_cp_0, hb_cp_0, hb_cp_0, hb_cp_0, hb_cp_0, nI_0] at H
  exact H
end
