noncomputable def hs_p (U G : Nat) (an : Int32) (o k b d : Nat → Int32) (x y z : Int32) : Nat → Bool := fun l => hb_b (hp_due U G b d l ∧ (an ≠ 0 → hp_past o k b x y z l))
noncomputable def hs_lX (o k b : Nat → Int32) : Nat → Nat → Bool := fun j i => hb_b (¬ hp_past o k b (o i) (k i) (b i) j)
noncomputable def hs_lY (o k b : Nat → Int32) : Nat → Nat → Bool := fun j i => hb_b (hp_past o k b (o j) (k j) (b j) i)
theorem hb_gt {x y : Int32} (h : x < y) : x.toInt < y.toInt := (hb_lt x y).mp h
theorem hb_ngt {x y : Int32} (h : ¬ x < y) : ¬ x.toInt < y.toInt := fun z => h ((hb_lt x y).mpr z)
theorem hb_ge {x y : Int32} (h : x ≤ y) : x.toInt ≤ y.toInt := (hb_le x y).mp h
theorem hb_nge {x y : Int32} (h : ¬ x ≤ y) : y.toInt < x.toInt := by
  have : ¬ x.toInt ≤ y.toInt := fun z => h ((hb_le x y).mpr z)
  omega
section
variable {ld ch av sn mu sy sg an so sk sb : Int32} {xo xk xb xd xv xc ss fp : Nat → Int32}
theorem hx_due {U G j : Nat} (hU : U < 1000) (hG : G < 1000) (hUG : U ≤ G) (hj : j < 200) {post : Int32 → Prop} (h1 : hp_due U G xb xd j → post 1) (h0 : ¬ hp_due U G xb xd j → post 0) : wpX_isDue post (ld, ch, av, sn, (nI U), sy, (nI G), an, so, sk, sb, xo, xk, xb, xd, xv, xc, ss, fp) (nI j) := by
  unfold wpX_isDue
  dsimp only
  have hi : vp_in (nI j) 200 := vp_in_nI hj (by omega)
  have eU : (nI U).toInt = (U : Int) := nI_toInt (by omega)
  have eG : (nI G).toInt = (G : Int) := nI_toInt (by omega)
  rw [hb_cl (by omega)]
  unfold hp_due at h1 h0
  refine ⟨hi, br_c (fun a => ⟨hi, br_c (fun b => h0 ?_) (fun b => ⟨hi, br_c (fun c => h0 ?_) (fun c => h1 ?_)⟩)⟩) (fun a => ⟨hi, br_c (fun b => h0 ?_) (fun b => h1 ?_)⟩)⟩
  · have a := hb_ge a; have b := hb_ge b; omega
  · have a := hb_ge a; have b := hb_nge b; have c := hb_gt c; omega
  · have a := hb_ge a; have b := hb_nge b; have c := hb_ngt c; omega
  · have a := hb_nge a; have b := hb_gt b; omega
  · have a := hb_nge a; have b := hb_ngt b; omega
theorem hx_past {j : Nat} (hj : j < 200) (x y z : Int32) {post : Int32 → Prop} (h1 : hp_past xo xk xb x y z j → post 1) (h0 : ¬ hp_past xo xk xb x y z j → post 0) : wpX_isPastRecord post (ld, ch, av, sn, mu, sy, sg, an, so, sk, sb, xo, xk, xb, xd, xv, xc, ss, fp) (nI j) x y z := by
  unfold wpX_isPastRecord
  dsimp only
  have hi : vp_in (nI j) 200 := vp_in_nI hj (by omega)
  rw [hb_cl (by omega)]
  refine hx_pk hj x y (fun p => br_f (by decide) (h1 ?_)) (fun p => br_t rfl ⟨hi, br_c (fun a => ⟨hi, br_c (fun b => ⟨hi, br_c (fun c => h0 ?_) (fun c => h1 ?_)⟩) (fun b => h0 ?_)⟩) (fun a => h0 ?_)⟩)
  · cases p with
    | inl p => exact Or.inl (hb_gt p)
    | inr p => exact Or.inr ⟨p.1, Or.inl (hb_nge p.2)⟩
  · intro w
    have c := hb_ge c
    cases w with
    | inl w => rw [a] at w; omega
    | inr w =>
      cases w.2 with
      | inl v => rw [b] at v; omega
      | inr v => omega
  · exact Or.inr ⟨a, Or.inr ⟨b, hb_nge c⟩⟩
  · intro w
    cases w with
    | inl w => exact p (Or.inl ((hb_lt _ _).mpr w))
    | inr w =>
      cases w.2 with
      | inl v => exact p (Or.inr ⟨w.1, fun q => by have := hb_ge q; omega⟩)
      | inr v => exact b v.1
  · intro w
    cases w with
    | inl w => exact p (Or.inl ((hb_lt _ _).mpr w))
    | inr w => exact a w.1
theorem hx_sendJ {e j : Nat} (hj : j < 200) (post : Int32 → Prop) (J : Int32 → Int32 → Prop) {p : Nat → Bool} (hp : p j = true) (best : Option Nat) (hb : ∀ i, best = some i → i < 200)
    (hn : J (hb_o (hb_nx p (hs_lX xo xk xb) j best)) (nI (j + 1))) : wX_slotToSend_50 post J (hb_o best) (nI e) (nI j) ld ch av sn mu sy sg an so sk sb xo xk xb xd xv xc ss fp := by
  unfold wX_slotToSend_50
  cases best with
  | none =>
    rw [hb_nx_n hp] at hn
    exact br_t rfl (nm_r (nI_1 j) hn)
  | some i =>
    have hi := hb i rfl
    have hvi : vp_in (nI i) 200 := vp_in_nI hi (by omega)
    refine br_f (hb_n1 (by omega)) ?_
    rw [show hb_o (some i) = nI i from rfl, hb_cl (j := i) (by omega)]
    refine ⟨hvi, hvi, hvi, ?_⟩
    refine hx_past hj _ _ _ (fun q => br_f (by decide) ?_) (fun q => br_t rfl ?_)
    · rw [hb_nx_k (hb_bf (fun z => z q))] at hn
      exact nm_r (nI_1 j) hn
    · rw [hb_nx_t hp (hb_bt q)] at hn
      exact nm_r (nI_1 j) hn
theorem hx_sendL {U G e : Nat} (hU : U < 1000) (hG : G < 1000) (hUG : U ≤ G) (he : e ≤ 100) (post : Int32 → Prop) : ∀ d j best, j + d = e → (∀ i, best = some i → i < 200) →
    post (hb_o (hb_bs (hs_p U G an xo xk xb xd so sk sb) (hs_lX xo xk xb) d j best)) → wX_slotToSend_10 post (nI e) ld ch av sn (nI U) sy (nI G) an so sk sb xo xk xb xd xv xc ss fp (d + 1) (hb_o best) (nI j) := by
  intro d
  induction d with
  | zero =>
    intro j best hj hb h
    rw [hb_bs_0] at h
    exact br_t (nI_le (by omega) (by omega)) h
  | succ d ih =>
    intro j best hj hb h
    rw [hb_bs_1] at h
    have hn := ih (j + 1) _ (by omega) (hb_nx_lt (by omega) hb) h
    refine br_f (nI_ge (by omega) (by omega)) ?_
    refine hx_due hU hG hUG (by omega) (fun hd => br_f (by decide) (br_c (fun ha => ?_) (fun ha => ?_))) (fun hd => br_t rfl ?_)
    · exact hx_sendJ (by omega) post _ (hb_bt ⟨hd, fun z => absurd ha z⟩) best hb hn
    · refine hx_past (by omega) _ _ _ (fun hp => br_f (by decide) ?_) (fun hp => br_t rfl ?_)
      · exact hx_sendJ (by omega) post _ (hb_bt ⟨hd, fun _ => hp⟩) best hb hn
      · rw [hb_nx_f (hb_bf (fun z => hp (z.2 ha)))] at hn
        exact nm_r (nI_1 j) hn
    · rw [hb_nx_f (hb_bf (fun z => hd z.1))] at hn
      exact nm_r (nI_1 j) hn
theorem hx_send {U G c : Nat} (hU : U < 1000) (hG : G < 1000) (hUG : U ≤ G) (hc : xc 0 = nI c) (hl : c ≤ 100) {post : Int32 → Prop} (h : post (hb_o (hb_bs (hs_p U G an xo xk xb xd so sk sb) (hs_lX xo xk xb) c 0 none))) : wpX_slotToSend post (ld, ch, av, sn, (nI U), sy, (nI G), an, so, sk, sb, xo, xk, xb, xd, xv, xc, ss, fp) := by
  unfold wpX_slotToSend
  dsimp only
  refine hx_end (V := 0) (by omega) hc ?_
  rw [show 100 * 0 + c = c from by omega]
  exact ⟨c + 1, hx_sendL hU hG hUG hl post c 0 none (by omega) (fun i hi => by cases hi) h⟩
end
section
variable {ld ch av sn mu sy sg an so sk sb : Int32} {yo yk yb yd yv yc ss fp : Nat → Int32}
theorem hy_sendP {j : Nat} (hj : j < 300) {post : Int32 → Prop} (h1 : (an ≠ 0 → hp_past yo yk yb so sk sb j) → post 1) (h0 : ¬ (an ≠ 0 → hp_past yo yk yb so sk sb j) → post 0) : wY_toSend_56 post (nI j) ld ch av sn mu sy sg an so sk sb yo yk yb yd yv yc ss fp := by
  unfold wY_toSend_56
  have hi : vp_in (nI j) 300 := vp_in_nI hj (by omega)
  rw [hb_cl (by omega)]
  refine br_c (fun a => h1 (fun z => absurd a z)) (fun a => ⟨hi, br_c (fun b => h1 (fun _ => Or.inl (hb_gt b))) (fun b => ⟨hi, br_c (fun c => ⟨hi, br_c (fun d => h1 (fun _ => Or.inr ⟨c, Or.inl (hb_gt d)⟩)) (fun d => ⟨hi, br_c (fun e => ⟨hi, br_c (fun f => h0 ?_) (fun f => h1 (fun _ => Or.inr ⟨c, Or.inr ⟨e, hb_nge f⟩⟩))⟩) (fun e => h0 ?_)⟩)⟩) (fun c => h0 ?_)⟩)⟩)
  · intro w
    have b := hb_ngt b
    have d := hb_ngt d
    have f := hb_ge f
    cases w a with
    | inl w => exact b w
    | inr w => cases w.2 with
      | inl v => exact d v
      | inr v => omega
  · intro w
    have b := hb_ngt b
    have d := hb_ngt d
    cases w a with
    | inl w => exact b w
    | inr w => cases w.2 with
      | inl v => exact d v
      | inr v => exact e v.1
  · intro w
    have b := hb_ngt b
    cases w a with
    | inl w => exact b w
    | inr w => exact c w.1
theorem hy_due {U G j : Nat} (hU : U < 1000) (hG : G < 1000) (hj : j < 300) {post : Int32 → Prop} (h1 : hp_due U G yb yd j ∧ (an ≠ 0 → hp_past yo yk yb so sk sb j) → post 1) (h0 : ¬ (hp_due U G yb yd j ∧ (an ≠ 0 → hp_past yo yk yb so sk sb j)) → post 0) : wpY_toSend post (ld, ch, av, sn, (nI U), sy, (nI G), an, so, sk, sb, yo, yk, yb, yd, yv, yc, ss, fp) (nI j) := by
  unfold wpY_toSend
  dsimp only
  have hi : vp_in (nI j) 300 := vp_in_nI hj (by omega)
  have eU : (nI U).toInt = (U : Int) := nI_toInt (by omega)
  have eG : (nI G).toInt = (G : Int) := nI_toInt (by omega)
  rw [hb_cl (by omega)]
  refine ⟨hi, br_c (fun a => ⟨hi, br_c (fun b => ?_) (fun b => ⟨hi, br_c (fun c => h0 ?_) (fun c => ⟨hi, br_c (fun d => ?_) (fun d => h0 ?_)⟩)⟩)⟩) (fun a => h0 ?_)⟩
  · have a := hb_ge a; have b := hb_gt b
    have hd : hp_due U G yb yd j := ⟨by omega, by omega⟩
    exact hy_sendP hj (fun z => h1 ⟨hd, z⟩) (fun z => h0 (fun w => z w.2))
  · intro w
    have a := hb_ge a; have b := hb_ngt b; have c := hb_ge c
    obtain ⟨⟨w1, w2⟩, _⟩ := w
    omega
  · have a := hb_ge a; have b := hb_ngt b; have c := hb_nge c; have d := hb_ge d
    have hd : hp_due U G yb yd j := ⟨by omega, by omega⟩
    exact hy_sendP hj (fun z => h1 ⟨hd, z⟩) (fun z => h0 (fun w => z w.2))
  · intro w
    have a := hb_ge a; have b := hb_ngt b; have c := hb_nge c; have d := hb_nge d
    obtain ⟨⟨w1, w2⟩, _⟩ := w
    omega
  · intro w
    have a := hb_nge a
    obtain ⟨⟨w1, w2⟩, _⟩ := w
    omega
theorem hy_sendL {U G e : Nat} (hU : U < 1000) (hG : G < 1000) (hc : yc 0 = nI e) (he : e ≤ 100) (post : Int32 → Prop) : ∀ d j best, j + d = e → (∀ i, best = some i → i < 300) →
    post (hb_o (hb_bs (hs_p U G an yo yk yb yd so sk sb) (hs_lY yo yk yb) d j best)) → wY_nextToSend_4 post ld ch av sn (nI U) sy (nI G) an so sk sb yo yk yb yd yv yc ss fp (d + 1) (hb_o best) (nI j) := by
  intro d
  induction d with
  | zero =>
    intro j best hj hb h
    rw [hb_bs_0] at h
    exact br_t (by rw [hc]; exact nI_le (by omega) (by omega)) h
  | succ d ih =>
    intro j best hj hb h
    rw [hb_bs_1] at h
    have hn := ih (j + 1) _ (by omega) (hb_nx_lt (by omega) hb) h
    have hvj : vp_in (nI j) 300 := vp_in_nI (by omega) (by omega)
    refine br_f (by rw [hc]; exact nI_ge (by omega) (by omega)) ?_
    refine hy_due hU hG (by omega) (fun hd => br_f (by decide) ?_) (fun hd => br_t rfl ?_)
    · have hp : hs_p U G an yo yk yb yd so sk sb j = true := hb_bt hd
      cases best with
      | none =>
        rw [hb_nx_n hp] at hn
        exact br_t hb_mn (nm_r (nI_1 j) hn)
      | some i =>
        have hi := hb i rfl
        have hvi : vp_in (nI i) 300 := vp_in_nI hi (by omega)
        refine br_f (hb_nn (by omega)) ?_
        rw [show hb_o (some i) = nI i from rfl, hb_cl (j := i) (by omega), hb_cl (j := j) (by omega)]
        by_cases hq : hp_past yo yk yb (yo j) (yk j) (yb j) i
        · rw [hb_nx_t hp (hb_bt hq)] at hn
          have hm := nm_r (P := fun x => wY_nextToSend_4 post ld ch av sn (nI U) sy (nI G) an so sk sb yo yk yb yd yv yc ss fp (d + 1) (nI j) x) (nI_1 j) hn
          refine ⟨hvj, hvi, br_c (fun _ => hm) (fun c1 => ⟨hvj, hvi, br_c (fun c2 => ⟨hvj, hvi, br_c (fun _ => hm) (fun c3 => ⟨hvj, hvi, br_c (fun c4 => ⟨hvj, hvi, br_c (fun c5 => (?_ : False).elim) (fun _ => hm)⟩) (fun c4 => (?_ : False).elim)⟩)⟩) (fun c2 => (?_ : False).elim)⟩)⟩
          · have c1 := hb_ngt c1; have c3 := hb_ngt c3; have c5 := hb_ge c5
            cases hq with
            | inl w => exact c1 w
            | inr w => cases w.2 with
              | inl v => exact c3 v
              | inr v => omega
          · have c1 := hb_ngt c1; have c3 := hb_ngt c3
            cases hq with
            | inl w => exact c1 w
            | inr w => cases w.2 with
              | inl v => exact c3 v
              | inr v => exact c4 v.1.symm
          · have c1 := hb_ngt c1
            cases hq with
            | inl w => exact c1 w
            | inr w => exact c2 w.1.symm
        · rw [hb_nx_k (hb_bf hq)] at hn
          have hm := nm_r (P := fun x => wY_nextToSend_4 post ld ch av sn (nI U) sy (nI G) an so sk sb yo yk yb yd yv yc ss fp (d + 1) (nI i) x) (nI_1 j) hn
          refine ⟨hvj, hvi, br_c (fun c1 => (hq (Or.inl (hb_gt c1))).elim) (fun c1 => ⟨hvj, hvi, br_c (fun c2 => ⟨hvj, hvi, br_c (fun c3 => (hq (Or.inr ⟨c2.symm, Or.inl (hb_gt c3)⟩)).elim) (fun c3 => ⟨hvj, hvi, br_c (fun c4 => ⟨hvj, hvi, br_c (fun c5 => hm) (fun c5 => (hq (Or.inr ⟨c2.symm, Or.inr ⟨c4.symm, hb_nge c5⟩⟩)).elim)⟩) (fun c4 => hm)⟩)⟩) (fun c2 => hm)⟩)⟩
    · rw [hb_nx_f (hb_bf hd)] at hn
      exact nm_r (nI_1 j) hn
theorem hy_send {U G c : Nat} (hU : U < 1000) (hG : G < 1000) (hc : yc 0 = nI c) (hl : c ≤ 100) {post : Int32 → Prop} (h : post (hb_o (hb_bs (hs_p U G an yo yk yb yd so sk sb) (hs_lY yo yk yb) c 0 none))) : wpY_nextToSend post (ld, ch, av, sn, (nI U), sy, (nI G), an, so, sk, sb, yo, yk, yb, yd, yv, yc, ss, fp) := by
  unfold wpY_nextToSend
  dsimp only
  exact ⟨c + 1, hy_sendL hU hG hc hl post c 0 none (by omega) (fun i hi => by cases hi) h⟩
end
theorem hs_Ag {U G c : Nat} {an so sk sb : Int32} {xo xk xb xd yo yk yb yd : Nat → Int32} (hc : c ≤ 100) (h1 : hb_Ag xo yo) (h2 : hb_Ag xk yk) (h3 : hb_Ag xb yb) (h4 : hb_Ag xd yd)
    (hD : hp_Dj 0 c yo yk yb yd) : hb_bs (hs_p U G an xo xk xb xd so sk sb) (hs_lX xo xk xb) c 0 none = hb_bs (hs_p U G an yo yk yb yd so sk sb) (hs_lY yo yk yb) c 0 none := by
  refine hb_bs_congr (s := 0) (e := c) ?_ ?_ c 0 none (by omega) (by omega) (fun i hi => by cases hi)
  · intro l _ hl
    unfold hs_p hp_due hp_past
    rw [h1 l (by omega), h2 l (by omega), h3 l (by omega), h4 l (by omega)]
  · intro i j _ hij hj _ _
    unfold hs_lX hs_lY
    refine hb_bc ?_
    unfold hp_past
    rw [h1 i (by omega), h2 i (by omega), h3 i (by omega), h1 j (by omega), h2 j (by omega), h3 j (by omega)]
    have hd := hD i j (by omega) (by omega) (by omega) (by omega) (by omega)
    rw [hb_eq, hb_eq] at hd
    rw [hb_eq (yo j), hb_eq (yo i), hb_eq (yk j), hb_eq (yk i)]
    omega
theorem hs_spec {U G c : Nat} {an so sk sb : Int32} {yo yk yb yd : Nat → Int32} (hD : hp_Dj 0 c yo yk yb yd) :
    (∀ s, hb_bs (hs_p U G an yo yk yb yd so sk sb) (hs_lY yo yk yb) c 0 none = some s → s < c ∧ hp_due U G yb yd s ∧ ∀ i, i < c → hp_due U G yb yd i → (an ≠ 0 → hp_past yo yk yb so sk sb i) → i = s ∨ hp_past yo yk yb (yo s) (yk s) (yb s) i) ∧
    (hb_bs (hs_p U G an yo yk yb yd so sk sb) (hs_lY yo yk yb) c 0 none = none → ∀ i, i < c → hp_due U G yb yd i → (an ≠ 0 → hp_past yo yk yb so sk sb i) → False) := by
  have H := hb_bs_spec (p := hs_p U G an yo yk yb yd so sk sb) (lt := hs_lY yo yk yb) (s := 0) (e := c) ?_ ?_ c 0 none (by omega) (by omega) (fun i hi => by cases hi) (fun _ l _ h => by omega)
  · constructor
    · intro s hs
      obtain ⟨q1, q2, q3, q4⟩ := H.1 s hs
      refine ⟨q2, ((hb_bi _).mp q3).1, fun i hi hd hp => ?_⟩
      cases q4 i (by omega) hi (hb_bt ⟨hd, hp⟩) with
      | inl z => exact Or.inl z
      | inr z => exact Or.inr ((hb_bi _).mp z)
    · intro hn i hi hd hp
      exact H.2 hn i (by omega) hi (hb_bt ⟨hd, hp⟩)
  · intro a b c h1 h2
    have h1 := (hb_bi _).mp h1
    have h2 := (hb_bi _).mp h2
    refine hb_bt ?_
    unfold hp_past at h1 h2
    unfold hp_past
    rw [hb_eq, hb_eq] at h1
    rw [hb_eq, hb_eq] at h2
    rw [hb_eq, hb_eq]
    omega
  · intro i j h1 h2 h3 h4 h5 _ _
    have hd := hD i j (by omega) (by omega) (by omega) (by omega) h5
    rw [hb_eq, hb_eq] at hd
    unfold hs_lY
    rw [hb_bi, hb_bi]
    unfold hp_past
    rw [hb_eq (yo j), hb_eq (yo i), hb_eq (yk j), hb_eq (yk i)]
    omega
