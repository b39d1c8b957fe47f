def hb_nx (p : Nat → Bool) (l : Nat → Nat → Bool) (j : Nat) : Option Nat → Option Nat
  | none => if p j = true then some j else none
  | some i => if p j = true ∧ l j i = true then some j else some i
theorem hb_bs_0 {p : Nat → Bool} {l : Nat → Nat → Bool} {j : Nat} {b : Option Nat} : hb_bs p l 0 j b = b := by cases b <;> rfl
theorem hb_bs_1 {p : Nat → Bool} {l : Nat → Nat → Bool} {d j : Nat} {b : Option Nat} : hb_bs p l (d + 1) j b = hb_bs p l d (j + 1) (hb_nx p l j b) := by cases b <;> rfl
theorem hb_nx_f {p : Nat → Bool} {l : Nat → Nat → Bool} {j : Nat} {b : Option Nat} (h : ¬ p j = true) : hb_nx p l j b = b := by
  cases b with
  | none => exact if_neg h
  | some i => exact if_neg (fun z => h z.1)
theorem hb_nx_n {p : Nat → Bool} {l : Nat → Nat → Bool} {j : Nat} (h : p j = true) : hb_nx p l j none = some j := if_pos h
theorem hb_nx_t {p : Nat → Bool} {l : Nat → Nat → Bool} {j i : Nat} (h : p j = true) (h2 : l j i = true) : hb_nx p l j (some i) = some j := if_pos ⟨h, h2⟩
theorem hb_nx_k {p : Nat → Bool} {l : Nat → Nat → Bool} {j i : Nat} (h2 : ¬ l j i = true) : hb_nx p l j (some i) = some i := if_neg (fun z => h2 z.2)
theorem hb_nx_lt {p : Nat → Bool} {l : Nat → Nat → Bool} {j N : Nat} {b : Option Nat} (hj : j < N) (h : ∀ i, b = some i → i < N) : ∀ i, hb_nx p l j b = some i → i < N := by
  intro i hi
  by_cases hp : p j = true
  · cases b with
    | none => rw [hb_nx_n hp] at hi; cases hi; exact hj
    | some a =>
      by_cases hl : l j a = true
      · rw [hb_nx_t hp hl] at hi; cases hi; exact hj
      · rw [hb_nx_k hl] at hi; cases hi; exact h _ rfl
  · rw [hb_nx_f hp] at hi; exact h i hi
noncomputable def hb_b (P : Prop) : Bool := @decide P (Classical.propDecidable P)
theorem hb_bi (P : Prop) : hb_b P = true ↔ P := by
  unfold hb_b
  exact @decide_eq_true_iff P (Classical.propDecidable P)
theorem hb_bt {P : Prop} (h : P) : hb_b P = true := (hb_bi P).mpr h
theorem hb_bf {P : Prop} (h : ¬ P) : ¬ hb_b P = true := fun z => h ((hb_bi P).mp z)
theorem hb_bc {P Q : Prop} (h : P ↔ Q) : hb_b P = hb_b Q := by rw [propext h]
def hb_Pk (o k : Nat → Int32) (x y : Int32) (l : Nat) : Prop := x < o l ∨ (o l = x ∧ ¬ k l ≤ y)
noncomputable def hb_pn (o k b d : Nat → Int32) (x y t : Int32) : Nat → Bool := fun l => hb_b (hb_vis b d t l = true ∧ hb_Pk o k x y l)
noncomputable def hb_lX (o k : Nat → Int32) : Nat → Nat → Bool := fun j i => hb_b (¬ hb_Pk o k (o i) (k i) j)
noncomputable def hb_lY (o k : Nat → Int32) : Nat → Nat → Bool := fun j i => hb_b (o j < o i ∨ (o j = o i ∧ ¬ k i ≤ k j))
section
variable {ld ch av sn mu sy sg an so sk sb : Int32} {xo xk xb xd xv xc ss fp : Nat → Int32}
theorem hx_pk {j : Nat} (hj : j < 200) (x y : Int32) {post : Int32 → Prop} (h1 : hb_Pk xo xk x y j → post 1) (h0 : ¬ hb_Pk xo xk x y j → post 0) : wpX_isPastKey post (ld, ch, av, sn, mu, sy, sg, an, so, sk, sb, xo, xk, xb, xd, xv, xc, ss, fp) (nI j) x y := by
  unfold wpX_isPastKey
  dsimp only
  have hi : vp_in (nI j) 200 := vp_in_nI hj (by omega)
  rw [hb_cl (by omega)]
  refine ⟨hi, br_c (fun c => h1 (Or.inl c)) (fun c => ⟨hi, br_c (fun e => ⟨hi, br_c (fun g => h0 ?_) (fun g => h1 (Or.inr ⟨e, g⟩))⟩) (fun e => h0 ?_)⟩)⟩
  · exact fun z => z.elim c (fun w => w.2 g)
  · exact fun z => z.elim c (fun w => e w.1)
theorem hx_nextL (x y t : Int32) {e : Nat} (he : e ≤ 200) (post : Int32 → SX → Prop) : ∀ d j best, j + d = e → (∀ i, best = some i → i < 200) →
    (hb_bs (hb_pn xo xk xb xd x y t) (hb_lX xo xk) d j best = none → post 0 (ld, ch, av, sn, mu, sy, sg, an, so, sk, sb, xo, xk, xb, xd, xv, xc, ss, fp)) →
    (∀ i, i < 200 → hb_bs (hb_pn xo xk xb xd x y t) (hb_lX xo xk) d j best = some i → post 1 (ld, ch, av, sn, mu, sy, sg, an, so, sk, sb, xo, xk, xb, xd, xv, xc, ss, (upd (upd (upd (upd fp 0 (xo i)) 1 (xk i)) 2 (xv i)) 3 (xb i)))) →
    wX_next_27 post x y t (nI e) ld ch av sn mu sy sg an so sk sb xo xk xb xd xv xc ss fp (d + 1) (hb_o best) (nI j) := by
  intro d
  induction d with
  | zero =>
    intro j best hj hb h0 h1
    rw [hb_bs_0] at h0
    rw [hb_bs_0] at h1
    refine br_t (nI_le (by omega) (by omega)) ?_
    cases best with
    | none => exact br_t rfl (h0 rfl)
    | some i =>
      have hi := hb i rfl
      have hv : vp_in (nI i) 200 := vp_in_nI hi (by omega)
      refine br_f (hb_n1 (by omega)) ?_
      show vp_in (nI i) 200 ∧ _
      rw [show hb_o (some i) = nI i from rfl, hb_cl (by omega)]
      exact ⟨hv, nm_e ⟨hv, nm_e ⟨hv, nm_e ⟨hv, nm_e (h1 i hi rfl)⟩⟩⟩⟩
  | succ d ih =>
    intro j best hj hb h0 h1
    rw [hb_bs_1] at h0
    rw [hb_bs_1] at h1
    refine br_f (nI_ge (by omega) (by omega)) ?_
    have hn := ih (j + 1) _ (by omega) (hb_nx_lt (by omega) hb) h0 h1
    refine hx_vis (by omega) t ?_
    by_cases hv : hb_vis xb xd t j = true
    · rw [if_pos hv]
      refine br_f (by decide) ?_
      refine hx_pk (by omega) x y (fun hp => br_f (by decide) ?_) (fun hp => br_t rfl ?_)
      · have hpt : hb_pn xo xk xb xd x y t j = true := hb_bt ⟨hv, hp⟩
        cases best with
        | none =>
          rw [hb_nx_n hpt] at hn
          exact br_t rfl (nm_r (nI_1 j) hn)
        | some i =>
          have hi := hb i rfl
          have hvi : vp_in (nI i) 200 := vp_in_nI hi (by omega)
          refine br_f (hb_n1 (by omega)) ?_
          rw [show hb_o (some i) = nI i from rfl, hb_cl (j := i) (by omega)]
          refine ⟨hvi, hvi, ?_⟩
          refine hx_pk (by omega) _ _ (fun hq => br_f (by decide) ?_) (fun hq => br_t rfl ?_)
          · rw [hb_nx_k (hb_bf (fun z => z hq))] at hn
            exact nm_r (nI_1 j) hn
          · rw [hb_nx_t hpt (hb_bt hq)] at hn
            exact nm_r (nI_1 j) hn
      · rw [hb_nx_f (hb_bf (fun z => hp z.2))] at hn
        exact nm_r (nI_1 j) hn
    · rw [if_neg hv]
      rw [hb_nx_f (hb_bf (fun z => hv z.1))] at hn
      exact br_t rfl (nm_r (nI_1 j) hn)
theorem hx_next {V c : Nat} (hav : av = nI V) (hV : V < 2) (hc : xc V = nI c) (hl : c ≤ 100) (x y t : Int32) {post : Int32 → SX → Prop}
    (h0 : hb_bs (hb_pn xo xk xb xd x y t) (hb_lX xo xk) c (100 * V) none = none → post 0 (ld, ch, av, sn, mu, sy, sg, an, so, sk, sb, xo, xk, xb, xd, xv, xc, ss, fp))
    (h1 : ∀ i, i < 200 → hb_bs (hb_pn xo xk xb xd x y t) (hb_lX xo xk) c (100 * V) none = some i → post 1 (ld, ch, av, sn, mu, sy, sg, an, so, sk, sb, xo, xk, xb, xd, xv, xc, ss, (upd (upd (upd (upd fp 0 (xo i)) 1 (xk i)) 2 (xv i)) 3 (xb i)))) :
    wpX_next post (ld, ch, av, sn, mu, sy, sg, an, so, sk, sb, xo, xk, xb, xd, xv, xc, ss, fp) x y t := by
  unfold wpX_next
  dsimp only
  subst hav
  refine hx_first hV ?_
  refine hx_end hV hc ?_
  exact ⟨_, hx_nextL x y t (e := 100 * V + c) (by omega) post c (100 * V) none rfl (fun i hi => by cases hi) h0 h1⟩
noncomputable def hb_is (b d ss : Nat → Int32) (S j : Nat) : Prop := ∃ s, s < S ∧ hb_vis b d (ss s) j = true
theorem hx_isL {S j : Nat} (hS : S ≤ 4) (hj : j < 200) (hsn : sn = nI S) (post : Int32 → Prop) (h1 : hb_is xb xd ss S j → post 1) (h0 : ¬ hb_is xb xd ss S j → post 0) :
    ∀ d i, i + d = S → (∀ s, s < i → ¬ hb_vis xb xd (ss s) j = true) → wX_isInSnapshot_2 post (nI j) ld ch av sn mu sy sg an so sk sb xo xk xb xd xv xc ss fp (d + 1) (nI i) := by
  subst hsn
  intro d
  induction d with
  | zero =>
    intro i hi hn
    exact br_t (nI_le (by omega) (by omega)) (h0 (fun ⟨s, z1, z2⟩ => hn s (by omega) z2))
  | succ d ih =>
    intro i hi hn
    refine br_f (nI_ge (by omega) (by omega)) ⟨vp_in_nI (by omega) (by omega), ?_⟩
    rw [hb_cl (j := i) (by omega)]
    refine hx_vis hj _ ?_
    by_cases hv : hb_vis xb xd (ss i) j = true
    · rw [if_pos hv]
      exact br_f (by decide) (h1 ⟨i, by omega, hv⟩)
    · rw [if_neg hv]
      refine br_t rfl (nm_r (nI_1 i) (ih (i + 1) (by omega) (fun s hs => ?_)))
      by_cases e : s = i
      · rw [e]; exact hv
      · exact hn s (by omega)
theorem hx_is {S j : Nat} (hS : S ≤ 4) (hj : j < 200) (hsn : sn = nI S) {post : Int32 → Prop} (h1 : hb_is xb xd ss S j → post 1) (h0 : ¬ hb_is xb xd ss S j → post 0) : wpX_isInSnapshot post (ld, ch, av, sn, mu, sy, sg, an, so, sk, sb, xo, xk, xb, xd, xv, xc, ss, fp) (nI j) := by
  unfold wpX_isInSnapshot
  dsimp only
  exact ⟨S + 1, hx_isL hS hj hsn post h1 h0 S 0 (by omega) (fun s hs => by omega)⟩
end
section
variable {ld ch av sn mu sy sg an so sk sb : Int32} {yo yk yb yd yv yc ss fp : Nat → Int32}
theorem hy_nextJ {j : Nat} (hj : j < 300) (x y t : Int32) (post : Int32 → SY → Prop) (J : Int32 → Int32 → Prop) (best : Option Nat) (hb : ∀ i, best = some i → i < 300)
    (hg : hb_Pk yo yk x y j) (hn : J (hb_o (hb_nx (hb_pn yo yk yb yd x y t) (hb_lY yo yk) j best)) (nI (j + 1))) :
    wY_next_67 post J x y t (hb_o best) (nI j) ld ch av sn mu sy sg an so sk sb yo yk yb yd yv yc ss fp := by
  unfold wY_next_67 wY_next_72
  refine br_f (by decide) ?_
  refine hy_vis hj t ?_
  by_cases hv : hb_vis yb yd t j = true
  · rw [if_pos hv]
    refine br_f (by decide) ?_
    have hpt : hb_pn yo yk yb yd x y t j = true := hb_bt ⟨hv, hg⟩
    cases best with
    | none =>
      rw [hb_nx_n hpt] at hn
      exact br_t hb_mn (nm_r (nI_1 j) hn)
    | some i =>
      have hi := hb i rfl
      have hvi : vp_in (nI i) 300 := vp_in_nI hi (by omega)
      have hvj : vp_in (nI j) 300 := vp_in_nI hj (by omega)
      refine br_f (hb_nn (by omega)) ?_
      rw [show hb_o (some i) = nI i from rfl, hb_cl (j := i) (by omega), hb_cl (j := j) (by omega)]
      by_cases hq : yo j < yo i ∨ (yo j = yo i ∧ ¬ yk i ≤ yk j)
      · rw [hb_nx_t hpt (hb_bt hq)] at hn
        have hm := nm_r (P := fun x => J (nI j) x) (nI_1 j) hn
        exact ⟨hvj, hvi, br_c (fun _ => hm) (fun c1 => ⟨hvj, hvi, br_c (fun c2 => ⟨hvj, hvi, br_c (fun c3 => (hq.elim c1 (fun w => w.2 c3)).elim) (fun _ => hm)⟩) (fun c2 => (hq.elim c1 (fun w => c2 w.1)).elim)⟩)⟩
      · rw [hb_nx_k (hb_bf hq)] at hn
        have hm := nm_r (P := fun x => J (nI i) x) (nI_1 j) hn
        exact ⟨hvj, hvi, br_c (fun c1 => (hq (Or.inl c1)).elim) (fun c1 => ⟨hvj, hvi, br_c (fun c2 => ⟨hvj, hvi, br_c (fun c3 => hm) (fun c3 => (hq (Or.inr ⟨c2, c3⟩)).elim)⟩) (fun c2 => hm)⟩)⟩
  · rw [if_neg hv]
    rw [hb_nx_f (hb_bf (fun z => hv z.1))] at hn
    exact br_t rfl (nm_r (nI_1 j) hn)
theorem hy_nextK {j : Nat} (x y t : Int32) (post : Int32 → SY → Prop) (J : Int32 → Int32 → Prop) (best : Option Nat)
    (hg : ¬ hb_Pk yo yk x y j) (hn : J (hb_o (hb_nx (hb_pn yo yk yb yd x y t) (hb_lY yo yk) j best)) (nI (j + 1))) :
    wY_next_71 post J x y t (hb_o best) (nI j) ld ch av sn mu sy sg an so sk sb yo yk yb yd yv yc ss fp := by
  unfold wY_next_71 wY_next_72
  rw [hb_nx_f (hb_bf (fun z => hg z.2))] at hn
  exact br_t rfl (nm_r (nI_1 j) hn)
theorem hy_nextL {V c : Nat} (hav : av = nI V) (hV : V < 3) (hcc : yc V = nI c) (hl : c ≤ 100) (x y t : Int32) (post : Int32 → SY → Prop) : ∀ d j best, j + d = 100 * V + c → (∀ i, best = some i → i < 300) →
    (hb_bs (hb_pn yo yk yb yd x y t) (hb_lY yo yk) d j best = none → post 0 (ld, ch, av, sn, mu, sy, sg, an, so, sk, sb, yo, yk, yb, yd, yv, yc, ss, fp)) →
    (∀ i, i < 300 → hb_bs (hb_pn yo yk yb yd x y t) (hb_lY yo yk) d j best = some i → post 1 (ld, ch, av, sn, mu, sy, sg, an, so, sk, sb, yo, yk, yb, yd, yv, yc, ss, (upd (upd (upd (upd fp 0 (yo i)) 1 (yk i)) 2 (yv i)) 3 (yb i)))) →
    wY_next_12 post x y t ld ch av sn mu sy sg an so sk sb yo yk yb yd yv yc ss fp (d + 1) (hb_o best) (nI j) := by
  subst hav
  have hv : vp_in (nI V) 3 := vp_in_nI hV (by omega)
  have he : (100 : Int32) * nI V + yc (nI V).toNatClampNeg = nI (100 * V + c) := by
    rw [hy_100, hb_cl (by omega), hcc, nI_add]
  intro d
  induction d with
  | zero =>
    intro j best hj hb h0 h1
    rw [hb_bs_0] at h0
    rw [hb_bs_0] at h1
    refine ⟨hv, ?_⟩
    rw [he]
    refine br_t (nI_le (by omega) (by omega)) ?_
    cases best with
    | none => exact br_f hb_mp (h0 rfl)
    | some i =>
      have hi := hb i rfl
      have hv : vp_in (nI i) 300 := vp_in_nI hi (by omega)
      refine br_t (hb_np (by omega)) ?_
      show vp_in (nI i) 300 ∧ _
      rw [show hb_o (some i) = nI i from rfl, hb_cl (j := i) (by omega)]
      exact ⟨hv, nm_e ⟨hv, nm_e ⟨hv, nm_e ⟨hv, nm_e (h1 i hi rfl)⟩⟩⟩⟩
  | succ d ih =>
    intro j best hj hb h0 h1
    rw [hb_bs_1] at h0
    rw [hb_bs_1] at h1
    have hvj : vp_in (nI j) 300 := vp_in_nI (by omega) (by omega)
    have hn := ih (j + 1) _ (by omega) (hb_nx_lt (by omega) hb) h0 h1
    refine ⟨hv, ?_⟩
    rw [he]
    refine br_f (nI_ge (by omega) (by omega)) ⟨hvj, ?_⟩
    rw [hb_cl (j := j) (by omega)]
    refine br_c (fun c1 => hy_nextJ (by omega) x y t post _ best hb (Or.inl c1) hn) (fun c1 => ⟨hvj, br_c (fun c2 => ⟨hvj, br_c (fun c3 => hy_nextK x y t post _ best ?_ hn) (fun c3 => hy_nextJ (by omega) x y t post _ best hb (Or.inr ⟨c2, c3⟩) hn)⟩) (fun c2 => hy_nextK x y t post _ best ?_ hn)⟩)
    · exact fun z => z.elim c1 (fun w => w.2 c3)
    · exact fun z => z.elim c1 (fun w => c2 w.1)
theorem hy_next {V c : Nat} (hav : av = nI V) (hV : V < 3) (hc : yc V = nI c) (hl : c ≤ 100) (x y t : Int32) {post : Int32 → SY → Prop}
    (h0 : hb_bs (hb_pn yo yk yb yd x y t) (hb_lY yo yk) c (100 * V) none = none → post 0 (ld, ch, av, sn, mu, sy, sg, an, so, sk, sb, yo, yk, yb, yd, yv, yc, ss, fp))
    (h1 : ∀ i, i < 300 → hb_bs (hb_pn yo yk yb yd x y t) (hb_lY yo yk) c (100 * V) none = some i → post 1 (ld, ch, av, sn, mu, sy, sg, an, so, sk, sb, yo, yk, yb, yd, yv, yc, ss, (upd (upd (upd (upd fp 0 (yo i)) 1 (yk i)) 2 (yv i)) 3 (yb i)))) :
    wpY_next post (ld, ch, av, sn, mu, sy, sg, an, so, sk, sb, yo, yk, yb, yd, yv, yc, ss, fp) x y t := by
  unfold wpY_next
  dsimp only
  refine nm_r (e' := nI (100 * V)) (by rw [hav, hy_100]) ?_
  exact ⟨_, hy_nextL hav hV hc hl x y t post c (100 * V) none rfl (fun i hi => by cases hi) h0 h1⟩
theorem hy_isL {V S U j : Nat} (hav : av = nI V) (hV : V < 2) (hS : S ≤ 4) (hU : U < 1000) (hmu : mu = nI U) (hj : j < 300) (hsn : sn = nI S) (post : Int32 → Prop)
    (h1 : hb_is yb yd ss S j ∨ (V = 0 ∧ (U : Int) < (yd j).toInt) → post 1) (h0 : ¬ (hb_is yb yd ss S j ∨ (V = 0 ∧ (U : Int) < (yd j).toInt)) → post 0) :
    ∀ d i, i + d = S → (∀ s, s < i → ¬ hb_vis yb yd (ss s) j = true) → wY_needed_2 post (nI j) ld ch av sn mu sy sg an so sk sb yo yk yb yd yv yc ss fp (d + 1) (nI i) := by
  subst hsn hav hmu
  have hvj : vp_in (nI j) 300 := vp_in_nI (by omega) (by omega)
  intro d
  induction d with
  | zero =>
    intro i hi hn
    have hni : ¬ hb_is yb yd ss S j := fun ⟨s, z1, z2⟩ => hn s (by omega) z2
    refine br_t (nI_le (by omega) (by omega)) ?_
    rw [hb_cl (j := j) (by omega)]
    match V, hV, h1, h0 with
    | 0, _, h1, h0 =>
      refine br_t nI_0 ⟨hvj, br_c (fun z => h0 ?_) (fun z => h1 ?_)⟩
      · rw [hb_le, nI_toInt (by omega)] at z
        exact fun w => w.elim hni (fun w => by omega)
      · rw [hb_le, nI_toInt (by omega)] at z
        exact Or.inr ⟨rfl, by omega⟩
    | 1, _, h1, h0 =>
      exact br_f (by decide) (h0 (fun w => w.elim hni (fun w => absurd w.1 (by decide))))
  | succ d ih =>
    intro i hi hn
    refine br_f (nI_ge (by omega) (by omega)) ⟨vp_in_nI (by omega) (by omega), ?_⟩
    rw [hb_cl (j := i) (by omega)]
    refine hy_vis hj _ ?_
    by_cases hv : hb_vis yb yd (ss i) j = true
    · rw [if_pos hv]
      exact br_f (by decide) (h1 (Or.inl ⟨i, by omega, hv⟩))
    · rw [if_neg hv]
      refine br_t rfl (nm_r (nI_1 i) (ih (i + 1) (by omega) (fun s hs => ?_)))
      by_cases e : s = i
      · rw [e]; exact hv
      · exact hn s (by omega)
theorem hy_is {V S U j : Nat} (hav : av = nI V) (hV : V < 2) (hS : S ≤ 4) (hU : U < 1000) (hmu : mu = nI U) (hj : j < 300) (hsn : sn = nI S) {post : Int32 → Prop}
    (h1 : hb_is yb yd ss S j ∨ (V = 0 ∧ (U : Int) < (yd j).toInt) → post 1) (h0 : ¬ (hb_is yb yd ss S j ∨ (V = 0 ∧ (U : Int) < (yd j).toInt)) → post 0) : wpY_needed post (ld, ch, av, sn, mu, sy, sg, an, so, sk, sb, yo, yk, yb, yd, yv, yc, ss, fp) (nI j) := by
  unfold wpY_needed
  dsimp only
  exact ⟨S + 1, hy_isL hav hV hS hU hmu hj hsn post h1 h0 S 0 (by omega) (fun s hs => by omega)⟩
end
