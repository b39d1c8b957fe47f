section
theorem pk_us {f : Nat → Int32} {k : Nat} {x : Int32} : upd f k x k = x := if_pos rfl
theorem pk_un {f : Nat → Int32} {k j : Nat} {x : Int32} (h : j ≠ k) : upd f k x j = f j := if_neg h
theorem pk_sub {a b : Nat} (h : b ≤ a) : nI a - nI b = nI (a - b) := by
  obtain ⟨c, rfl⟩ : ∃ c, a = c + b := ⟨a - b, by omega⟩
  rw [← nI_add, Int32.add_sub_cancel, Nat.add_sub_cancel]
theorem pk_m1 (n : Nat) : nI (n + 1) + (-1) = nI n := by
  rw [← nI_1, Int32.add_assoc, show (1 : Int32) + (-1) = 0 from rfl, Int32.add_zero]
theorem pk_mul (a b : Nat) : nI a * nI b = nI (a * b) := (Int32.ofNat_mul a b).symm
theorem hb_le (x y : Int32) : x ≤ y ↔ x.toInt ≤ y.toInt := Int32.le_iff_toInt_le
theorem hb_lt (x y : Int32) : x < y ↔ x.toInt < y.toInt := Int32.lt_iff_toInt_lt
theorem hb_eq (x y : Int32) : x = y ↔ x.toInt = y.toInt := Int32.toInt_inj.symm
theorem hb_0 : (0 : Int32).toInt = 0 := by decide
theorem hb_m1 : (-1 : Int32).toInt = -1 := by decide
theorem hb_n1 {j : Nat} (h : j < 1000) : ¬ nI j = -1 := by
  rw [hb_eq, nI_toInt (by omega), hb_m1]; omega
theorem hb_nn {j : Nat} (h : j < 1000) : ¬ nI j < 0 := nI_pos (by omega)
theorem hb_np {j : Nat} (h : j < 1000) : 0 ≤ nI j := nI_pos' (by omega)
theorem hb_mn : (-1 : Int32) < 0 := by decide
theorem hb_mp : ¬ 0 ≤ (-1 : Int32) := by decide
theorem hb_cl {j : Nat} (h : j < 1000) : (nI j).toNatClampNeg = j := nI_clamp (by omega)
theorem hb_dec (j : Nat) : nI (j + 1) - 1 = nI j := nI_pred j
theorem hb_neg1 : nI 0 + (-1) = -1 := by decide
theorem hb_neg2 : nI 0 - 1 = -1 := by decide
def hb_o : Option Nat → Int32
  | none => -1
  | some j => nI j
def hb_sc (p : Nat → Bool) : Nat → Nat → Option Nat
  | 0, _ => none
  | d + 1, j => if p j = true then some j else hb_sc p d (j + 1)
theorem hb_sc_t {p : Nat → Bool} {d j : Nat} (h : p j = true) : hb_sc p (d + 1) j = some j := by
  rw [hb_sc, if_pos h]
theorem hb_sc_f {p : Nat → Bool} {d j : Nat} (h : ¬ p j = true) : hb_sc p (d + 1) j = hb_sc p d (j + 1) := by
  rw [hb_sc, if_neg h]
theorem hb_sc_some {p : Nat → Bool} : ∀ {d j i : Nat}, hb_sc p d j = some i → j ≤ i ∧ i < j + d ∧ p i = true ∧ ∀ l, j ≤ l → l < i → ¬ p l = true := by
  intro d
  induction d with
  | zero => intro j i h; cases h
  | succ d ih =>
    intro j i h
    by_cases hp : p j = true
    · rw [hb_sc_t hp] at h
      cases h
      exact ⟨by omega, by omega, hp, fun l h1 h2 => by omega⟩
    · rw [hb_sc_f hp] at h
      obtain ⟨h1, h2, h3, h4⟩ := ih h
      refine ⟨by omega, by omega, h3, fun l hl hl2 => ?_⟩
      by_cases e : l = j
      · rw [e]; exact hp
      · exact h4 l (by omega) hl2
theorem hb_sc_none {p : Nat → Bool} : ∀ {d j : Nat}, hb_sc p d j = none → ∀ l, j ≤ l → l < j + d → ¬ p l = true := by
  intro d
  induction d with
  | zero => intro j h l h1 h2; omega
  | succ d ih =>
    intro j h l h1 h2
    by_cases hp : p j = true
    · rw [hb_sc_t hp] at h
      cases h
    · rw [hb_sc_f hp] at h
      by_cases e : l = j
      · rw [e]; exact hp
      · exact ih h l (by omega) (by omega)
theorem hb_sc_congr {p q : Nat → Bool} : ∀ {d j : Nat}, (∀ l, j ≤ l → l < j + d → p l = q l) → hb_sc p d j = hb_sc q d j := by
  intro d
  induction d with
  | zero => intro j h; rfl
  | succ d ih =>
    intro j h
    rw [hb_sc, hb_sc, h j (by omega) (by omega), ih (fun l h1 h2 => h l (by omega) (by omega))]
/-- the least by lt among those with p, the first of ties -/
def hb_bs (p : Nat → Bool) (lt : Nat → Nat → Bool) : Nat → Nat → Option Nat → Option Nat
  | 0, _, b => b
  | d + 1, j, none => hb_bs p lt d (j + 1) (if p j = true then some j else none)
  | d + 1, j, some i => hb_bs p lt d (j + 1) (if p j = true ∧ lt j i = true then some j else some i)
theorem hb_bs_congr {p q : Nat → Bool} {l1 l2 : Nat → Nat → Bool} {s e : Nat} (hp : ∀ l, s ≤ l → l < e → p l = q l)
    (hl : ∀ i j, s ≤ i → i < j → j < e → p i = true → p j = true → l1 j i = l2 j i) :
    ∀ d j b, s ≤ j → j + d = e → (∀ i, b = some i → s ≤ i ∧ i < j ∧ p i = true) → hb_bs p l1 d j b = hb_bs q l2 d j b := by
  intro d
  induction d with
  | zero => intro j b _ _ _; cases b <;> rfl
  | succ d ih =>
    intro j b hs he hb
    cases b with
    | none =>
      rw [hb_bs, hb_bs, ← hp j hs (by omega)]
      refine ih _ _ (by omega) (by omega) ?_
      intro i hi
      by_cases h : p j = true
      · rw [if_pos h] at hi; cases hi; exact ⟨hs, by omega, h⟩
      · rw [if_neg h] at hi; cases hi
    | some i =>
      obtain ⟨h1, h2, h3⟩ := hb i rfl
      rw [hb_bs, hb_bs, ← hp j hs (by omega)]
      have e : (p j = true ∧ l1 j i = true) ↔ (p j = true ∧ l2 j i = true) := by
        constructor
        · intro h; exact ⟨h.1, by rw [← hl i j h1 h2 (by omega) h3 h.1]; exact h.2⟩
        · intro h; exact ⟨h.1, by rw [hl i j h1 h2 (by omega) h3 h.1]; exact h.2⟩
      by_cases h : p j = true ∧ l1 j i = true
      · rw [if_pos h, if_pos (e.mp h)]
        exact ih _ _ (by omega) (by omega) (fun i' hi' => by cases hi'; exact ⟨hs, by omega, h.1⟩)
      · rw [if_neg h, if_neg (fun z => h (e.mpr z))]
        exact ih _ _ (by omega) (by omega) (fun i' hi' => by cases hi'; exact ⟨h1, by omega, h3⟩)
/-- what the least is: in the range, with p, and before all others with p -/
theorem hb_bs_spec {p : Nat → Bool} {lt : Nat → Nat → Bool} {s e : Nat}
    (htr : ∀ a b c, lt a b = true → lt b c = true → lt a c = true)
    (hto : ∀ i j, s ≤ i → i < e → s ≤ j → j < e → i ≠ j → p i = true → p j = true → lt i j = true ∨ lt j i = true) :
    ∀ d j b, s ≤ j → j + d = e →
      (∀ i, b = some i → s ≤ i ∧ i < j ∧ p i = true ∧ ∀ l, s ≤ l → l < j → p l = true → l = i ∨ lt i l = true) →
      (b = none → ∀ l, s ≤ l → l < j → ¬ p l = true) →
      (∀ i, hb_bs p lt d j b = some i → s ≤ i ∧ i < e ∧ p i = true ∧ ∀ l, s ≤ l → l < e → p l = true → l = i ∨ lt i l = true) ∧
      (hb_bs p lt d j b = none → ∀ l, s ≤ l → l < e → ¬ p l = true) := by
  intro d
  induction d with
  | zero =>
    intro j b hs he h1 h2
    have e1 : hb_bs p lt 0 j b = b := by cases b <;> rfl
    have e2 : j = e := by omega
    rw [e1]; subst e2
    exact ⟨h1, h2⟩
  | succ d ih =>
    intro j b hs he h1 h2
    cases b with
    | none =>
      rw [hb_bs]
      have hn := h2 rfl
      refine ih _ _ (by omega) (by omega) ?_ ?_
      · intro i hi
        by_cases h : p j = true
        · rw [if_pos h] at hi; cases hi
          refine ⟨hs, by omega, h, fun l hl hl2 hpl => ?_⟩
          by_cases e' : l = j
          · exact Or.inl e'
          · exact absurd hpl (hn l hl (by omega))
        · rw [if_neg h] at hi; cases hi
      · intro hi l hl hl2
        by_cases h : p j = true
        · rw [if_pos h] at hi; cases hi
        · by_cases e' : l = j
          · rw [e']; exact h
          · exact hn l hl (by omega)
    | some i =>
      obtain ⟨g1, g2, g3, g4⟩ := h1 i rfl
      rw [hb_bs]
      refine ih _ _ (by omega) (by omega) ?_ ?_
      · intro i' hi'
        by_cases h : p j = true ∧ lt j i = true
        · rw [if_pos h] at hi'; cases hi'
          refine ⟨hs, by omega, h.1, fun l hl hl2 hpl => ?_⟩
          by_cases e' : l = j
          · exact Or.inl e'
          · refine Or.inr ?_
            cases g4 l hl (by omega) hpl with
            | inl e2 => rw [e2]; exact h.2
            | inr e2 => exact htr _ _ _ h.2 e2
        · rw [if_neg h] at hi'; cases hi'
          refine ⟨g1, by omega, g3, fun l hl hl2 hpl => ?_⟩
          by_cases e' : l = j
          · refine Or.inr ?_
            subst e'
            cases hto i l g1 (by omega) hs (by omega) (by omega) g3 hpl with
            | inl z => exact z
            | inr z => exact absurd ⟨hpl, z⟩ h
          · exact g4 l hl (by omega) hpl
      · intro hi'
        by_cases h : p j = true ∧ lt j i = true
        · rw [if_pos h] at hi'; cases hi'
        · rw [if_neg h] at hi'; cases hi'
def hb_Ag (a b : Nat → Int32) : Prop := ∀ j, j < 200 → a j = b j
theorem hb_Ag_u {a b : Nat → Int32} (h : hb_Ag a b) (i : Nat) (x : Int32) : hb_Ag (upd a i x) (upd b i x) := by
  intro j hj
  by_cases e : j = i
  · rw [e, pk_us, pk_us]
  · rw [pk_un e, pk_un e]; exact h j hj
theorem hb_u_id (a : Nat → Int32) (i : Nat) : upd a i (a i) = a := by
  funext j
  by_cases e : j = i
  · rw [e, pk_us]
  · rw [pk_un e]
def hb_cp (s t c : Nat) (a : Nat → Int32) : Nat → Int32 := fun j => if t ≤ j ∧ j < t + c then a (s + (j - t)) else a j
end
section
section
variable {ld ch av sn mu sy sg an so sk sb : Int32} {xo xk xb xd xv xc ss fp : Nat → Int32}
theorem hx_first {V : Nat} (hV : V < 2) {post : Int32 → Prop} (h : post (nI (100 * V))) : wpX_firstSlot post (ld, ch, av, sn, mu, sy, sg, an, so, sk, sb, xo, xk, xb, xd, xv, xc, ss, fp) (nI V) := by
  unfold wpX_firstSlot
  dsimp only
  match V, hV, h with
  | 0, _, h => exact br_t nI_0 h
  | 1, _, h => exact br_f (by decide) h
theorem hx_end {V c : Nat} (hV : V < 2) (hc : xc V = nI c) {post : Int32 → Prop} (h : post (nI (100 * V + c))) : wpX_endSlot post (ld, ch, av, sn, mu, sy, sg, an, so, sk, sb, xo, xk, xb, xd, xv, xc, ss, fp) (nI V) := by
  unfold wpX_endSlot
  dsimp only
  refine hx_first hV ⟨vp_in_nI hV (by omega), ?_⟩
  rw [hb_cl (by omega), hc, nI_add]
  exact h
def hb_pb (o k b : Nat → Int32) (x y z : Int32) : Nat → Bool := fun l => decide (o l = x ∧ k l = y ∧ b l = z)
def hb_vis (b d : Nat → Int32) (t : Int32) (l : Nat) : Bool := decide (¬ t < b l ∧ (d l = 0 ∨ ¬ d l ≤ t))
def hb_pv (o k b d : Nat → Int32) (x y t : Int32) : Nat → Bool := fun l => decide (o l = x ∧ k l = y ∧ hb_vis b d t l = true)
theorem hx_bornL (o k b : Int32) {e : Nat} (he : e ≤ 200) : ∀ d j, j + d = e → ∀ post : Int32 → Prop, post (hb_o (hb_sc (hb_pb xo xk xb o k b) d j)) → wX_slotBornAt_18 post o k b (nI e) ld ch av sn mu sy sg an so sk sb xo xk xb xd xv xc ss fp (d + 1) (nI j) := by
  intro d
  induction d with
  | zero =>
    intro j hj post h
    exact br_t (nI_le (by omega) (by omega)) h
  | succ d ih =>
    intro j hj post h
    have hi : vp_in (nI j) 200 := vp_in_nI (by omega) (by omega)
    have hc : (nI j).toNatClampNeg = j := nI_clamp (by omega)
    refine br_f (nI_ge (by omega) (by omega)) ⟨hi, ?_⟩
    rw [hc]
    by_cases hp : hb_pb xo xk xb o k b j = true
    · rw [hb_sc_t hp] at h
      have hq := of_decide_eq_true hp
      exact br_t hq.1 ⟨hi, br_t hq.2.1 ⟨hi, br_t hq.2.2 h⟩⟩
    · rw [hb_sc_f hp] at h
      have hn := nm_r (P := fun x => wX_slotBornAt_18 post o k b (nI e) ld ch av sn mu sy sg an so sk sb xo xk xb xd xv xc ss fp (d + 1) x) (nI_1 j) (ih (j + 1) (by omega) post h)
      have hq : ¬ (xo j = o ∧ xk j = k ∧ xb j = b) := fun z => hp (decide_eq_true z)
      exact br_c (fun h1 => ⟨hi, br_c (fun h2 => ⟨hi, br_f (fun h3 => hq ⟨h1, h2, h3⟩) hn⟩) (fun _ => hn)⟩) (fun _ => hn)
theorem hx_born {V c : Nat} (hV : V < 2) (hc : xc V = nI c) (hl : c ≤ 100) (o k b : Int32) {post : Int32 → Prop} (h : post (hb_o (hb_sc (hb_pb xo xk xb o k b) c (100 * V)))) : wpX_slotBornAt post (ld, ch, av, sn, mu, sy, sg, an, so, sk, sb, xo, xk, xb, xd, xv, xc, ss, fp) (nI V) o k b := by
  unfold wpX_slotBornAt
  dsimp only
  refine hx_first hV ?_
  refine hx_end hV hc ?_
  exact ⟨_, hx_bornL o k b (by omega) c (100 * V) rfl post h⟩
theorem hx_vis {j : Nat} (hj : j < 200) (t : Int32) {post : Int32 → Prop} (h : post (if hb_vis xb xd t j = true then 1 else 0)) : wpX_isVisible post (ld, ch, av, sn, mu, sy, sg, an, so, sk, sb, xo, xk, xb, xd, xv, xc, ss, fp) (nI j) t := by
  unfold wpX_isVisible
  dsimp only
  have hi : vp_in (nI j) 200 := vp_in_nI hj (by omega)
  rw [hb_cl (by omega)]
  by_cases h1 : t < xb j
  · rw [if_neg (fun z => (of_decide_eq_true z).1 h1)] at h
    exact ⟨hi, br_t h1 h⟩
  · by_cases h2 : xd j = 0
    · rw [if_pos (show hb_vis xb xd t j = true from decide_eq_true ⟨h1, Or.inl h2⟩)] at h
      exact ⟨hi, br_f h1 ⟨hi, br_t h2 h⟩⟩
    · by_cases h3 : xd j ≤ t
      · rw [if_neg (fun z => (of_decide_eq_true z).2.elim h2 (fun y => y h3))] at h
        exact ⟨hi, br_f h1 ⟨hi, br_f h2 ⟨hi, br_t h3 h⟩⟩⟩
      · rw [if_pos (show hb_vis xb xd t j = true from decide_eq_true ⟨h1, Or.inr h3⟩)] at h
        exact ⟨hi, br_f h1 ⟨hi, br_f h2 ⟨hi, br_f h3 h⟩⟩⟩
theorem hx_seenL (o k t : Int32) {e : Nat} (he : e ≤ 200) : ∀ d j, j + d = e → ∀ post : Int32 → Prop, post (hb_o (hb_sc (hb_pv xo xk xb xd o k t) d j)) → wX_slotVisibleAt_18 post o k t (nI e) ld ch av sn mu sy sg an so sk sb xo xk xb xd xv xc ss fp (d + 1) (nI j) := by
  intro d
  induction d with
  | zero =>
    intro j hj post h
    exact br_t (nI_le (by omega) (by omega)) h
  | succ d ih =>
    intro j hj post h
    have hi : vp_in (nI j) 200 := vp_in_nI (by omega) (by omega)
    have hc : (nI j).toNatClampNeg = j := nI_clamp (by omega)
    refine br_f (nI_ge (by omega) (by omega)) ⟨hi, ?_⟩
    rw [hc]
    by_cases hp : hb_pv xo xk xb xd o k t j = true
    · rw [hb_sc_t hp] at h
      have hq := of_decide_eq_true hp
      exact br_t hq.1 ⟨hi, br_t hq.2.1 (hx_vis (by omega) t (by rw [if_pos hq.2.2]; exact br_f (by decide) h))⟩
    · rw [hb_sc_f hp] at h
      have hn := nm_r (P := fun x => wX_slotVisibleAt_18 post o k t (nI e) ld ch av sn mu sy sg an so sk sb xo xk xb xd xv xc ss fp (d + 1) x) (nI_1 j) (ih (j + 1) (by omega) post h)
      have hq : ¬ (xo j = o ∧ xk j = k ∧ hb_vis xb xd t j = true) := fun z => hp (decide_eq_true z)
      exact br_c (fun h1 => ⟨hi, br_c (fun h2 => hx_vis (by omega) t (by rw [if_neg (fun h3 => hq ⟨h1, h2, h3⟩)]; exact br_t rfl hn)) (fun _ => hn)⟩) (fun _ => hn)
theorem hx_seen {V c : Nat} (hV : V < 2) (hc : xc V = nI c) (hl : c ≤ 100) (o k t : Int32) {post : Int32 → Prop} (h : post (hb_o (hb_sc (hb_pv xo xk xb xd o k t) c (100 * V)))) : wpX_slotVisibleAt post (ld, ch, av, sn, mu, sy, sg, an, so, sk, sb, xo, xk, xb, xd, xv, xc, ss, fp) (nI V) o k t := by
  unfold wpX_slotVisibleAt
  dsimp only
  refine hx_first hV ?_
  refine hx_end hV hc ?_
  exact ⟨_, hx_seenL o k t (by omega) c (100 * V) rfl post h⟩
theorem hx_add {V c : Nat} (hV : V < 2) (hc : xc V = nI c) (hl : c < 100) (o k b d v : Int32) {post : Int32 → SX → Prop}
    (h : post 1 (ld, ch, av, sn, mu, sy, sg, an, so, sk, sb, (upd xo (100 * V + c) o), (upd xk (100 * V + c) k), (upd xb (100 * V + c) b), (upd xd (100 * V + c) d), (upd xv (100 * V + c) v), (upd xc V (nI (c + 1))), ss, fp)) : wpX_addRecord post (ld, ch, av, sn, mu, sy, sg, an, so, sk, sb, xo, xk, xb, xd, xv, xc, ss, fp) (nI V) o k b d v := by
  unfold wpX_addRecord
  dsimp only
  have hv : vp_in (nI V) 2 := vp_in_nI hV (by omega)
  have hi : vp_in (nI (100 * V + c)) 200 := vp_in_nI (by omega) (by omega)
  rw [hb_cl (j := V) (by omega), hc]
  refine ⟨hv, br_t (nI_lt (b := 100) hl (by omega)) ?_⟩
  refine hx_end hV hc ?_
  rw [hb_cl (j := 100 * V + c) (by omega)]
  exact ⟨hi, nm_e ⟨hi, nm_e ⟨hi, nm_e ⟨hi, nm_e ⟨hi, nm_e ⟨hv, hv, nm_r (by rw [nI_1]) h⟩⟩⟩⟩⟩⟩
theorem hx_addF {V c : Nat} (hV : V < 2) (hc : xc V = nI c) (hl : c = 100) (o k b d v : Int32) {post : Int32 → SX → Prop}
    (h : post 0 (ld, ch, av, sn, mu, sy, sg, an, so, sk, sb, xo, xk, xb, xd, xv, xc, ss, fp)) : wpX_addRecord post (ld, ch, av, sn, mu, sy, sg, an, so, sk, sb, xo, xk, xb, xd, xv, xc, ss, fp) (nI V) o k b d v := by
  unfold wpX_addRecord
  dsimp only
  have hv : vp_in (nI V) 2 := vp_in_nI hV (by omega)
  rw [hb_cl (j := V) (by omega), hc]
  exact ⟨hv, br_f (nI_nlt (b := 100) (by omega) (by omega)) h⟩
theorem hx_take {V c i : Nat} (hV : V < 2) (hc : xc V = nI (c + 1)) (hl : c < 100) (hi : i < 200) {post : SX → Prop}
    (h : post (ld, ch, av, sn, mu, sy, sg, an, so, sk, sb, (upd xo i (xo (100 * V + c))), (upd xk i (xk (100 * V + c))), (upd xb i (xb (100 * V + c))), (upd xd i (xd (100 * V + c))), (upd xv i (xv (100 * V + c))), (upd xc V (nI c)), ss, fp)) : wpX_takeAway post (ld, ch, av, sn, mu, sy, sg, an, so, sk, sb, xo, xk, xb, xd, xv, xc, ss, fp) (nI V) (nI i) := by
  unfold wpX_takeAway
  dsimp only
  have hv : vp_in (nI V) 2 := vp_in_nI hV (by omega)
  have hs : vp_in (nI (100 * V + c)) 200 := vp_in_nI (by omega) (by omega)
  have ht : vp_in (nI i) 200 := vp_in_nI (by omega) (by omega)
  rw [hb_cl (j := V) (by omega), hc, hb_dec]
  refine ⟨hv, hv, nm_e ?_⟩
  refine hx_end (c := c) hV pk_us ?_
  rw [hb_cl (j := 100 * V + c) (by omega), hb_cl (j := i) (by omega)]
  exact ⟨hs, ht, nm_e ⟨hs, ht, nm_e ⟨hs, ht, nm_e ⟨hs, ht, nm_e ⟨hs, ht, nm_e h⟩⟩⟩⟩⟩
end
section
variable {ld ch av sn mu sy sg an so sk sb : Int32} {yo yk yb yd yv yc ss fp : Nat → Int32}
theorem hy_100 (V : Nat) : (100 : Int32) * nI V = nI (100 * V) := pk_mul 100 V
theorem hy_bornL {V c : Nat} (hV : V < 3) (hcc : yc V = nI c) (hl : c ≤ 100) (o k b : Int32) : ∀ d j, j + d = 100 * V + c → ∀ post : Int32 → Prop, post (hb_o (hb_sc (hb_pb yo yk yb o k b) d j)) → wY_bornAt_6 post (nI V) o k b ld ch av sn mu sy sg an so sk sb yo yk yb yd yv yc ss fp (d + 1) (nI j) := by
  have hv : vp_in (nI V) 3 := vp_in_nI hV (by omega)
  have he : (100 : Int32) * nI V + yc (nI V).toNatClampNeg = nI (100 * V + c) := by
    rw [hy_100, hb_cl (by omega), hcc, nI_add]
  intro d
  induction d with
  | zero =>
    intro j hj post h
    refine ⟨hv, ?_⟩
    rw [he]
    exact br_t (nI_le (by omega) (by omega)) h
  | succ d ih =>
    intro j hj post h
    have hi : vp_in (nI j) 300 := vp_in_nI (by omega) (by omega)
    have hc : (nI j).toNatClampNeg = j := nI_clamp (by omega)
    refine ⟨hv, ?_⟩
    rw [he]
    refine br_f (nI_ge (by omega) (by omega)) ⟨hi, ?_⟩
    rw [hc]
    by_cases hp : hb_pb yo yk yb o k b j = true
    · rw [hb_sc_t hp] at h
      have hq := of_decide_eq_true hp
      exact br_t hq.1 ⟨hi, br_t hq.2.1 ⟨hi, br_t hq.2.2 h⟩⟩
    · rw [hb_sc_f hp] at h
      have hn := nm_r (P := fun x => wY_bornAt_6 post (nI V) o k b ld ch av sn mu sy sg an so sk sb yo yk yb yd yv yc ss fp (d + 1) x) (nI_1 j) (ih (j + 1) (by omega) post h)
      have hq : ¬ (yo j = o ∧ yk j = k ∧ yb j = b) := fun z => hp (decide_eq_true z)
      exact br_c (fun h1 => ⟨hi, br_c (fun h2 => ⟨hi, br_f (fun h3 => hq ⟨h1, h2, h3⟩) hn⟩) (fun _ => hn)⟩) (fun _ => hn)
theorem hy_born {V c : Nat} (hV : V < 3) (hc : yc V = nI c) (hl : c ≤ 100) (o k b : Int32) {post : Int32 → Prop} (h : post (hb_o (hb_sc (hb_pb yo yk yb o k b) c (100 * V)))) : wpY_bornAt post (ld, ch, av, sn, mu, sy, sg, an, so, sk, sb, yo, yk, yb, yd, yv, yc, ss, fp) (nI V) o k b := by
  unfold wpY_bornAt
  dsimp only
  refine nm_r (hy_100 V) ?_
  exact ⟨_, hy_bornL hV hc hl o k b c (100 * V) rfl post h⟩
theorem hy_vis {j : Nat} (hj : j < 300) (t : Int32) {post : Int32 → Prop} (h : post (if hb_vis yb yd t j = true then 1 else 0)) : wpY_visible post (ld, ch, av, sn, mu, sy, sg, an, so, sk, sb, yo, yk, yb, yd, yv, yc, ss, fp) (nI j) t := by
  unfold wpY_visible
  dsimp only
  have hi : vp_in (nI j) 300 := vp_in_nI hj (by omega)
  rw [hb_cl (by omega)]
  by_cases h1 : t < yb j
  · rw [if_neg (fun z => (of_decide_eq_true z).1 h1)] at h
    exact ⟨hi, br_t h1 h⟩
  · by_cases h2 : yd j = 0
    · rw [if_pos (show hb_vis yb yd t j = true from decide_eq_true ⟨h1, Or.inl h2⟩)] at h
      exact ⟨hi, br_f h1 ⟨hi, br_t h2 h⟩⟩
    · by_cases h3 : yd j ≤ t
      · rw [if_neg (fun z => (of_decide_eq_true z).2.elim h2 (fun y => y h3))] at h
        exact ⟨hi, br_f h1 ⟨hi, br_f h2 ⟨hi, br_t h3 h⟩⟩⟩
      · rw [if_pos (show hb_vis yb yd t j = true from decide_eq_true ⟨h1, Or.inr h3⟩)] at h
        exact ⟨hi, br_f h1 ⟨hi, br_f h2 ⟨hi, br_f h3 h⟩⟩⟩
theorem hy_seenL {V c : Nat} (hV : V < 3) (hcc : yc V = nI c) (hl : c ≤ 100) (o k t : Int32) : ∀ d j, j + d = 100 * V + c → ∀ post : Int32 → Prop, post (hb_o (hb_sc (hb_pv yo yk yb yd o k t) d j)) → wY_seen_6 post (nI V) o k t ld ch av sn mu sy sg an so sk sb yo yk yb yd yv yc ss fp (d + 1) (nI j) := by
  have hv : vp_in (nI V) 3 := vp_in_nI hV (by omega)
  have he : (100 : Int32) * nI V + yc (nI V).toNatClampNeg = nI (100 * V + c) := by
    rw [hy_100, hb_cl (by omega), hcc, nI_add]
  intro d
  induction d with
  | zero =>
    intro j hj post h
    refine ⟨hv, ?_⟩
    rw [he]
    exact br_t (nI_le (by omega) (by omega)) h
  | succ d ih =>
    intro j hj post h
    have hi : vp_in (nI j) 300 := vp_in_nI (by omega) (by omega)
    have hc : (nI j).toNatClampNeg = j := nI_clamp (by omega)
    refine ⟨hv, ?_⟩
    rw [he]
    refine br_f (nI_ge (by omega) (by omega)) ⟨hi, ?_⟩
    rw [hc]
    by_cases hp : hb_pv yo yk yb yd o k t j = true
    · rw [hb_sc_t hp] at h
      have hq := of_decide_eq_true hp
      exact br_t hq.1 ⟨hi, br_t hq.2.1 (hy_vis (by omega) t (by rw [if_pos hq.2.2]; exact br_f (by decide) h))⟩
    · rw [hb_sc_f hp] at h
      have hn := nm_r (P := fun x => wY_seen_6 post (nI V) o k t ld ch av sn mu sy sg an so sk sb yo yk yb yd yv yc ss fp (d + 1) x) (nI_1 j) (ih (j + 1) (by omega) post h)
      have hq : ¬ (yo j = o ∧ yk j = k ∧ hb_vis yb yd t j = true) := fun z => hp (decide_eq_true z)
      exact br_c (fun h1 => ⟨hi, br_c (fun h2 => hy_vis (by omega) t (by rw [if_neg (fun h3 => hq ⟨h1, h2, h3⟩)]; exact br_t rfl hn)) (fun _ => hn)⟩) (fun _ => hn)
theorem hy_seen {V c : Nat} (hV : V < 3) (hc : yc V = nI c) (hl : c ≤ 100) (o k t : Int32) {post : Int32 → Prop} (h : post (hb_o (hb_sc (hb_pv yo yk yb yd o k t) c (100 * V)))) : wpY_seen post (ld, ch, av, sn, mu, sy, sg, an, so, sk, sb, yo, yk, yb, yd, yv, yc, ss, fp) (nI V) o k t := by
  unfold wpY_seen
  dsimp only
  refine nm_r (hy_100 V) ?_
  exact ⟨_, hy_seenL hV hc hl o k t c (100 * V) rfl post h⟩
theorem hy_add {V c : Nat} (hV : V < 3) (hc : yc V = nI c) (hl : c < 100) (o k b d v : Int32) {post : SY → Prop}
    (h : post (ld, ch, av, sn, mu, sy, sg, an, so, sk, sb, (upd yo (100 * V + c) o), (upd yk (100 * V + c) k), (upd yb (100 * V + c) b), (upd yd (100 * V + c) d), (upd yv (100 * V + c) v), (upd yc V (nI (c + 1))), ss, fp)) : wpY_add post (ld, ch, av, sn, mu, sy, sg, an, so, sk, sb, yo, yk, yb, yd, yv, yc, ss, fp) (nI V) o k b d v := by
  unfold wpY_add
  dsimp only
  have hv : vp_in (nI V) 3 := vp_in_nI hV (by omega)
  have hi : vp_in (nI (100 * V + c)) 300 := vp_in_nI (by omega) (by omega)
  rw [hb_cl (j := V) (by omega), hc, nI_1]
  refine ⟨hv, hv, nm_e ?_⟩
  refine nm_r (e' := nI (100 * V + c)) (by rw [hy_100, nI_add]) ?_
  rw [hb_cl (j := 100 * V + c) (by omega)]
  exact ⟨hi, nm_e ⟨hi, nm_e ⟨hi, nm_e ⟨hi, nm_e ⟨hi, nm_e h⟩⟩⟩⟩⟩
theorem hy_copyR {s t : Nat} (hs : s < 300) (ht : t < 300) {post : SY → Prop}
    (h : post (ld, ch, av, sn, mu, sy, sg, an, so, sk, sb, (upd yo t (yo s)), (upd yk t (yk s)), (upd yb t (yb s)), (upd yd t (yd s)), (upd yv t (yv s)), yc, ss, fp)) : wpY_copyRecord post (ld, ch, av, sn, mu, sy, sg, an, so, sk, sb, yo, yk, yb, yd, yv, yc, ss, fp) (nI s) (nI t) := by
  unfold wpY_copyRecord
  dsimp only
  have h1 : vp_in (nI s) 300 := vp_in_nI hs (by omega)
  have h2 : vp_in (nI t) 300 := vp_in_nI ht (by omega)
  rw [hb_cl (j := s) (by omega), hb_cl (j := t) (by omega)]
  exact ⟨h1, h2, nm_e ⟨h1, h2, nm_e ⟨h1, h2, nm_e ⟨h1, h2, nm_e ⟨h1, h2, nm_e h⟩⟩⟩⟩⟩
theorem hy_take {V c i : Nat} (hV : V < 3) (hc : yc V = nI (c + 1)) (hl : c < 100) (hi : i < 300) {post : SY → Prop}
    (h : post (ld, ch, av, sn, mu, sy, sg, an, so, sk, sb, (upd yo i (yo (100 * V + c))), (upd yk i (yk (100 * V + c))), (upd yb i (yb (100 * V + c))), (upd yd i (yd (100 * V + c))), (upd yv i (yv (100 * V + c))), (upd yc V (nI c)), ss, fp)) : wpY_take post (ld, ch, av, sn, mu, sy, sg, an, so, sk, sb, yo, yk, yb, yd, yv, yc, ss, fp) (nI V) (nI i) := by
  unfold wpY_take
  dsimp only
  have hv : vp_in (nI V) 3 := vp_in_nI hV (by omega)
  rw [hb_cl (j := V) (by omega), hc, hb_dec]
  refine ⟨hv, hv, nm_e ?_⟩
  refine nm_r (e' := nI (100 * V + c)) (by rw [hy_100, nI_add]) ?_
  exact hy_copyR (by omega) hi h
theorem hb_cp_s (s t c : Nat) (a : Nat → Int32) (hst : s + 100 ≤ t ∨ t + 100 ≤ s) (hc : c < 100) : upd (hb_cp s t c a) (t + c) (hb_cp s t c a (s + c)) = hb_cp s t (c + 1) a := by
  funext j
  unfold hb_cp
  by_cases e : j = t + c
  · rw [e, pk_us, if_neg (by omega), if_pos (by omega)]
    exact congrArg a (by omega)
  · rw [pk_un e]
    by_cases h : t ≤ j ∧ j < t + c
    · rw [if_pos h, if_pos (by omega)]
    · rw [if_neg h, if_neg (by omega)]
theorem hb_cp_0 (s t : Nat) (a : Nat → Int32) : hb_cp s t 0 a = a := by
  funext j
  unfold hb_cp
  exact if_neg (by omega)
theorem hy_copyL {P Q c : Nat} (hP : P < 3) (hQ : Q < 3) (hPQ : P ≠ Q) (hcc : yc P = nI c) (hl : c ≤ 100) (post : SY → Prop)
    (h : post (ld, ch, av, sn, mu, sy, sg, an, so, sk, sb, (hb_cp (100 * P) (100 * Q) c yo), (hb_cp (100 * P) (100 * Q) c yk), (hb_cp (100 * P) (100 * Q) c yb), (hb_cp (100 * P) (100 * Q) c yd), (hb_cp (100 * P) (100 * Q) c yv), yc, ss, fp)) :
    ∀ d j, j + d = c → wY_copyVolume_14 post (nI P) (nI Q) (d + 1) (nI j) ld ch av sn mu sy sg an so sk sb (hb_cp (100 * P) (100 * Q) j yo) (hb_cp (100 * P) (100 * Q) j yk) (hb_cp (100 * P) (100 * Q) j yb) (hb_cp (100 * P) (100 * Q) j yd) (hb_cp (100 * P) (100 * Q) j yv) yc ss fp := by
  have hv : vp_in (nI P) 3 := vp_in_nI hP (by omega)
  have he : yc (nI P).toNatClampNeg = nI c := by rw [hb_cl (by omega), hcc]
  intro d
  induction d with
  | zero =>
    intro j hj
    have ej : j = c := by omega
    subst ej
    refine ⟨hv, ?_⟩
    rw [he]
    exact br_t (nI_le (by omega) (by omega)) h
  | succ d ih =>
    intro j hj
    refine ⟨hv, ?_⟩
    rw [he]
    refine br_f (nI_ge (by omega) (by omega)) ?_
    rw [hy_100, hy_100, nI_add, nI_add]
    refine hy_copyR (by omega) (by omega) ?_
    refine nm_r (nI_1 j) ?_
    rw [hb_cp_s _ _ _ _ (by omega) (by omega), hb_cp_s _ _ _ _ (by omega) (by omega), hb_cp_s _ _ _ _ (by omega) (by omega), hb_cp_s _ _ _ _ (by omega) (by omega), hb_cp_s _ _ _ _ (by omega) (by omega)]
    exact ih (j + 1) (by omega)
theorem hy_copy {P Q c : Nat} (hP : P < 3) (hQ : Q < 3) (hPQ : P ≠ Q) (hcc : yc P = nI c) (hl : c ≤ 100) {post : SY → Prop}
    (h : post (ld, ch, av, sn, mu, sy, sg, an, so, sk, sb, (hb_cp (100 * P) (100 * Q) c yo), (hb_cp (100 * P) (100 * Q) c yk), (hb_cp (100 * P) (100 * Q) c yb), (hb_cp (100 * P) (100 * Q) c yd), (hb_cp (100 * P) (100 * Q) c yv), (upd yc Q (nI c)), ss, fp)) : wpY_copyVolume post (ld, ch, av, sn, mu, sy, sg, an, so, sk, sb, yo, yk, yb, yd, yv, yc, ss, fp) (nI P) (nI Q) := by
  unfold wpY_copyVolume
  dsimp only
  have hv : vp_in (nI P) 3 := vp_in_nI hP (by omega)
  have hw : vp_in (nI Q) 3 := vp_in_nI hQ (by omega)
  rw [hb_cl (j := P) (by omega), hb_cl (j := Q) (by omega), hcc]
  refine ⟨hv, hw, nm_e ⟨c + 1, ?_⟩⟩
  have H := hy_copyL (ld := ld) (ch := ch) (av := av) (sn := sn) (mu := mu) (sy := sy) (sg := sg) (an := an) (so := so) (sk := sk) (sb := sb) (yo := yo) (yk := yk) (yb := yb) (yd := yd) (yv := yv) (yc := upd yc Q (nI c)) (ss := ss) (fp := fp) hP hQ hPQ (by rw [pk_un hPQ]; exact hcc) hl post h c 0 (by omega)
  rw [hb_cp_0, hb_cp_0, hb_cp_0, hb_cp_0, hb_cp_0, nI_0] at H
  exact H
end
end
section
def hp_Dj (s c : Nat) (o k b d : Nat → Int32) : Prop := ∀ i j, s ≤ i → i < s + c → s ≤ j → j < s + c → i ≠ j → o i = o j → k i = k j → (b i).toInt ≠ (b j).toInt ∧ ((b i).toInt < (b j).toInt → (d i).toInt ≠ 0 ∧ (d i).toInt ≤ (b j).toInt)
def hp_Rg (s c : Nat) (D : Nat) (b d : Nat → Int32) : Prop := ∀ i, s ≤ i → i < s + c → 1 ≤ (b i).toInt ∧ (b i).toInt ≤ (D : Int) ∧ 0 ≤ (d i).toInt ∧ (d i).toInt ≤ (D : Int)
def hp_M1 (c0 c1 : Nat) (o k b d : Nat → Int32) : Prop := ∀ i m, i < c0 → 100 ≤ m → m < 100 + c1 → o i = o m → k i = k m → (b i).toInt < (b m).toInt → (d i).toInt ≠ 0 ∧ (d i).toInt ≤ (b m).toInt
def hp_M2 (c0 c1 U : Nat) (o k b d : Nat → Int32) : Prop := ∀ m, 100 ≤ m → m < 100 + c1 → (∃ i, i < c0 ∧ o i = o m ∧ k i = k m ∧ (b i).toInt = (b m).toInt) ∨ ((d m).toInt ≠ 0 ∧ (d m).toInt ≤ (U : Int) ∧ ∀ i, i < c0 → o i = o m → k i = k m → (b m).toInt < (b i).toInt → (d m).toInt ≤ (b i).toInt)
def hp_past (o k b : Nat → Int32) (x y z : Int32) (i : Nat) : Prop := x.toInt < (o i).toInt ∨ (o i = x ∧ (y.toInt < (k i).toInt ∨ (k i = y ∧ z.toInt < (b i).toInt)))
def hp_M3 (c0 c1 U G : Nat) (S : Prop) (o k b d : Nat → Int32) (x y z : Int32) : Prop := ∀ i m, i < c0 → 100 ≤ m → m < 100 + c1 → o i = o m → k i = k m → (b i).toInt = (b m).toInt → (d m).toInt = (d i).toInt ∨ ((d m).toInt = 0 ∧ (U : Int) < (d i).toInt ∧ (S → (d i).toInt ≤ (G : Int) → hp_past o k b x y z i))
def hp_J (D E U G c0 c1 : Nat) (S S1 : Prop) (o k b d : Nat → Int32) (x y z : Int32) : Prop :=
  c0 ≤ 100 ∧ c1 ≤ 100 ∧ U ≤ D ∧ G ≤ D ∧ D ≤ E ∧ (S → U ≤ G ∧ ∀ m, 100 ≤ m → m < 100 + c1 → (b m).toInt ≤ (G : Int)) ∧
  hp_Rg 0 c0 E b d ∧ hp_Rg 100 c1 D b d ∧ hp_Dj 0 c0 o k b d ∧ hp_Dj 100 c1 o k b d ∧
  hp_M1 c0 c1 o k b d ∧ hp_M2 c0 c1 U o k b d ∧ hp_M3 c0 c1 U G S1 o k b d x y z
def hp_Sv (c0 c2 D : Nat) (o k b d v : Nat → Int32) : Prop := c2 ≤ c0 ∧
  (∀ i, i < c2 → o (200 + i) = o i ∧ k (200 + i) = k i ∧ b (200 + i) = b i ∧ v (200 + i) = v i ∧ (b i).toInt ≤ (D : Int) ∧ ((d i).toInt = (D : Int) + 1 → (d (200 + i)).toInt = 0) ∧ ((d i).toInt ≠ (D : Int) + 1 → (d (200 + i)).toInt = (d i).toInt)) ∧
  (∀ i, c2 ≤ i → i < c0 → (b i).toInt = (D : Int) + 1)
def hp_Inv (D C U G c0 c1 c2 : Nat) (S S1 : Prop) (o k b d v : Nat → Int32) (x y z : Int32) : Prop :=
  C ≤ 40 ∧ hp_J D (D + 1) U G c0 c1 S S1 o k b d x y z ∧ hp_Sv c0 c2 D o k b d v ∧
  (C = 0 → c0 = c2 ∧ ∀ i, i < c0 → (d i).toInt ≠ (D : Int) + 1)
/-- only what lies below 200 counts -/
theorem hp_J_congr {D E U G c0 c1 : Nat} {S S1 : Prop} {o k b d o' k' b' d' : Nat → Int32} {x y z : Int32}
    (h : hp_J D E U G c0 c1 S S1 o k b d x y z)
    (ho : ∀ j, j < 200 → o' j = o j) (hk : ∀ j, j < 200 → k' j = k j) (hb : ∀ j, j < 200 → b' j = b j) (hd : ∀ j, j < 200 → d' j = d j) :
    hp_J D E U G c0 c1 S S1 o' k' b' d' x y z := by
  obtain ⟨a1, a2, a3, a4, a5, a6, a7, a8, a9, a10, a11, a12, a13⟩ := h
  refine ⟨a1, a2, a3, a4, a5, ?_, ?_, ?_, ?_, ?_, ?_, ?_, ?_⟩
  · intro hs
    refine ⟨(a6 hs).1, fun m h1 h2 => ?_⟩
    rw [hb m (by omega)]; exact (a6 hs).2 m h1 h2
  · intro i h1 h2
    rw [hb i (by omega), hd i (by omega)]; exact a7 i h1 h2
  · intro i h1 h2
    rw [hb i (by omega), hd i (by omega)]; exact a8 i h1 h2
  · intro i j h1 h2 h3 h4
    rw [ho i (by omega), ho j (by omega), hk i (by omega), hk j (by omega), hb i (by omega), hb j (by omega), hd i (by omega)]
    exact a9 i j h1 h2 h3 h4
  · intro i j h1 h2 h3 h4
    rw [ho i (by omega), ho j (by omega), hk i (by omega), hk j (by omega), hb i (by omega), hb j (by omega), hd i (by omega)]
    exact a10 i j h1 h2 h3 h4
  · intro i m h1 h2 h3
    rw [ho i (by omega), ho m (by omega), hk i (by omega), hk m (by omega), hb i (by omega), hb m (by omega), hd i (by omega)]
    exact a11 i m h1 h2 h3
  · intro m h2 h3
    cases a12 m h2 h3 with
    | inl q =>
      obtain ⟨i, q1, q2, q3, q4⟩ := q
      refine Or.inl ⟨i, q1, ?_⟩
      rw [ho i (by omega), ho m (by omega), hk i (by omega), hk m (by omega), hb i (by omega), hb m (by omega)]
      exact ⟨q2, q3, q4⟩
    | inr q =>
      refine Or.inr ?_
      rw [hd m (by omega)]
      refine ⟨q.1, q.2.1, fun i hi => ?_⟩
      rw [ho i (by omega), ho m (by omega), hk i (by omega), hk m (by omega), hb i (by omega), hb m (by omega)]
      exact q.2.2 i hi
  · intro i m h1 h2 h3
    unfold hp_past
    rw [ho i (by omega), ho m (by omega), hk i (by omega), hk m (by omega), hb i (by omega), hb m (by omega), hd i (by omega), hd m (by omega)]
    exact a13 i m h1 h2 h3
theorem hp_J_mono {D E D' E' U G c0 c1 : Nat} {S S1 S' S1' : Prop} {o k b d : Nat → Int32} {x y z : Int32}
    (h : hp_J D E U G c0 c1 S S1 o k b d x y z) (hD : D ≤ D') (hE : E ≤ E') (hDE : D' ≤ E') (hS : S' → S) (hS1 : S1' → S1) :
    hp_J D' E' U G c0 c1 S' S1' o k b d x y z := by
  obtain ⟨a1, a2, a3, a4, a5, a6, a7, a8, a9, a10, a11, a12, a13⟩ := h
  refine ⟨a1, a2, by omega, by omega, hDE, fun s => a6 (hS s), ?_, ?_, a9, a10, a11, a12, ?_⟩
  · intro i h1 h2; have := a7 i h1 h2; omega
  · intro i h1 h2; have := a8 i h1 h2; omega
  · intro i m h1 h2 h3 h4 h5 h6
    cases a13 i m h1 h2 h3 h4 h5 h6 with
    | inl q => exact Or.inl q
    | inr q => exact Or.inr ⟨q.1, q.2.1, fun s => q.2.2 (hS1 s)⟩
theorem hp_bump {D C U G c0 c1 c2 : Nat} {S S1 : Prop} {o k b d v : Nat → Int32} {x y z : Int32}
    (h : hp_Inv D C U G c0 c1 c2 S S1 o k b d v x y z) (hC : C < 40) : hp_Inv D (C + 1) U G c0 c1 c2 S S1 o k b d v x y z :=
  ⟨by omega, h.2.1, h.2.2.1, fun z => by omega⟩
theorem hp_end {D C U G c0 c1 c2 e : Nat} {S S1 : Prop} {o k b d d' v : Nat → Int32} {x y z : Int32}
    (h : hp_Inv D (C + 1) U G c0 c1 c2 S S1 o k b d v x y z) (he : e < c0) (h0 : (d e).toInt = 0)
    (h1 : (d' e).toInt = (D : Int) + 1) (h2 : ∀ i, i ≠ e → d' i = d i) : hp_Inv D (C + 1) U G c0 c1 c2 S S1 o k b d' v x y z := by
  obtain ⟨b1, ⟨a1, a2, a3, a4, a5, a6, a7, a8, a9, a10, a11, a12, a13⟩, ⟨s1, s2, s3⟩, b4⟩ := h
  refine ⟨b1, ⟨a1, a2, a3, a4, a5, a6, ?_, ?_, ?_, ?_, ?_, ?_, ?_⟩, ⟨s1, ?_, s3⟩, fun z => by omega⟩
  · intro i g1 g2
    have := a7 i g1 g2
    by_cases q : i = e
    · subst q; omega
    · rw [h2 i q]; omega
  · intro i g1 g2
    rw [h2 i (by omega)]; exact a8 i g1 g2
  · intro i j g1 g2 g3 g4 g5 g6 g7
    have := a9 i j g1 g2 g3 g4 g5 g6 g7
    by_cases q : i = e
    · subst q; omega
    · rw [h2 i q]; exact this
  · intro i j g1 g2
    rw [h2 i (by omega)]; exact a10 i j g1 g2
  · intro i m g1 g2 g3 g4 g5 g6
    have := a11 i m g1 g2 g3 g4 g5 g6
    by_cases q : i = e
    · subst q; omega
    · rw [h2 i q]; exact this
  · intro m g1 g2
    rw [h2 m (by omega)]; exact a12 m g1 g2
  · intro i m g1 g2 g3 g4 g5 g6
    have := a13 i m g1 g2 g3 g4 g5 g6
    rw [h2 m (by omega)]
    by_cases q : i = e
    · subst q
      refine Or.inr ⟨by omega, by omega, fun _ z => by omega⟩
    · rw [h2 i q]; exact this
  · intro i g1
    have := s2 i g1
    rw [h2 (200 + i) (by omega)]
    by_cases q : i = e
    · subst q
      obtain ⟨r1, r2, r3, r4, r5, r6, r7⟩ := this
      exact ⟨r1, r2, r3, r4, r5, fun _ => by omega, fun z => by omega⟩
    · rw [h2 i q]; exact this
theorem hp_own {D C U G c0 c1 c2 e : Nat} {S S1 : Prop} {o k b d d' v v' : Nat → Int32} {x y z : Int32}
    (h : hp_Inv D (C + 1) U G c0 c1 c2 S S1 o k b d v x y z) (he : e < c0) (h0 : (b e).toInt = (D : Int) + 1)
    (h1 : (d' e).toInt = 0) (h2 : ∀ i, i ≠ e → d' i = d i) (h3 : ∀ i, i ≠ e → v' i = v i) : hp_Inv D (C + 1) U G c0 c1 c2 S S1 o k b d' v' x y z := by
  obtain ⟨b1, ⟨a1, a2, a3, a4, a5, a6, a7, a8, a9, a10, a11, a12, a13⟩, ⟨s1, s2, s3⟩, b4⟩ := h
  refine ⟨b1, ⟨a1, a2, a3, a4, a5, a6, ?_, ?_, ?_, ?_, ?_, ?_, ?_⟩, ⟨s1, ?_, s3⟩, fun z => by omega⟩
  · intro i g1 g2
    have := a7 i g1 g2
    by_cases q : i = e
    · subst q; omega
    · rw [h2 i q]; omega
  · intro i g1 g2
    rw [h2 i (by omega)]; exact a8 i g1 g2
  · intro i j g1 g2 g3 g4 g5 g6 g7
    have := a9 i j g1 g2 g3 g4 g5 g6 g7
    have := a7 j g3 g4
    by_cases q : i = e
    · subst q; omega
    · rw [h2 i q]; assumption
  · intro i j g1 g2
    rw [h2 i (by omega)]; exact a10 i j g1 g2
  · intro i m g1 g2 g3 g4 g5 g6
    have := a11 i m g1 g2 g3 g4 g5 g6
    have := a8 m g2 g3
    by_cases q : i = e
    · subst q; omega
    · rw [h2 i q]; assumption
  · intro m g1 g2
    rw [h2 m (by omega)]; exact a12 m g1 g2
  · intro i m g1 g2 g3 g4 g5 g6
    have := a8 m g2 g3
    have := a13 i m g1 g2 g3 g4 g5 g6
    rw [h2 m (by omega)]
    by_cases q : i = e
    · subst q; omega
    · rw [h2 i q]; exact this
  · intro i g1
    have := s2 i g1
    have q : i ≠ e := fun z => by subst z; omega
    rw [h2 (200 + i) (by omega), h3 (200 + i) (by omega), h2 i q, h3 i q]
    exact this
theorem hp_add {D C U G c0 c1 c2 : Nat} {S S1 : Prop} {o k b d v o' k' b' d' v' : Nat → Int32} {x y z p q : Int32}
    (h : hp_Inv D (C + 1) U G c0 c1 c2 S S1 o k b d v x y z) (hc : c0 < 100)
    (hn : ∀ i, i < c0 → o i = p → k i = q → (b i).toInt ≠ (D : Int) + 1 ∧ (d i).toInt ≠ 0)
    (ho : o' c0 = p) (hk : k' c0 = q) (hb : (b' c0).toInt = (D : Int) + 1) (hd : (d' c0).toInt = 0)
    (jo : ∀ i, i ≠ c0 → o' i = o i) (jk : ∀ i, i ≠ c0 → k' i = k i) (jb : ∀ i, i ≠ c0 → b' i = b i) (jd : ∀ i, i ≠ c0 → d' i = d i) (jv : ∀ i, i ≠ c0 → v' i = v i) :
    hp_Inv D (C + 1) U G (c0 + 1) c1 c2 S S1 o' k' b' d' v' x y z := by
  obtain ⟨b1, ⟨a1, a2, a3, a4, a5, a6, a7, a8, a9, a10, a11, a12, a13⟩, ⟨s1, s2, s3⟩, b4⟩ := h
  refine ⟨b1, ⟨by omega, a2, a3, a4, a5, ?_, ?_, ?_, ?_, ?_, ?_, ?_, ?_⟩, ⟨by omega, ?_, ?_⟩, fun z => by omega⟩
  · intro s
    refine ⟨(a6 s).1, fun m g1 g2 => ?_⟩
    rw [jb m (by omega)]; exact (a6 s).2 m g1 g2
  · intro i g1 g2
    by_cases e : i = c0
    · subst e; omega
    · rw [jb i e, jd i e]; exact a7 i g1 (by omega)
  · intro i g1 g2
    rw [jb i (by omega), jd i (by omega)]; exact a8 i g1 g2
  · intro i j g1 g2 g3 g4 g5 g6 g7
    by_cases e : i = c0
    · subst e
      have e2 : j ≠ i := fun z => g5 z.symm
      rw [jo j e2, ho] at g6
      rw [jk j e2, hk] at g7
      rw [jb j e2]
      have := hn j (by omega) g6.symm g7.symm
      have := a7 j g3 (by omega)
      omega
    · by_cases e2 : j = c0
      · subst e2
        rw [jo i e, ho] at g6
        rw [jk i e, hk] at g7
        rw [jb i e, jd i e]
        have := hn i (by omega) g6 g7
        have := a7 i g1 (by omega)
        omega
      · rw [jo i e, jo j e2] at g6
        rw [jk i e, jk j e2] at g7
        rw [jb i e, jb j e2, jd i e]
        exact a9 i j g1 (by omega) g3 (by omega) g5 g6 g7
  · intro i j g1 g2 g3 g4
    rw [jo i (by omega), jo j (by omega), jk i (by omega), jk j (by omega), jb i (by omega), jb j (by omega), jd i (by omega)]
    exact a10 i j g1 g2 g3 g4
  · intro i m g1 g2 g3 g4 g5
    rw [jb m (by omega)]
    have := a8 m g2 g3
    by_cases e : i = c0
    · subst e; omega
    · rw [jo i e, jo m (by omega)] at g4
      rw [jk i e, jk m (by omega)] at g5
      rw [jb i e, jd i e]
      exact a11 i m (by omega) g2 g3 g4 g5
  · intro m g1 g2
    have em : m ≠ c0 := by omega
    rw [jo m em, jk m em, jb m em, jd m em]
    cases a12 m g1 g2 with
    | inl w =>
      obtain ⟨i, w1, w2⟩ := w
      refine Or.inl ⟨i, by omega, ?_⟩
      rw [jo i (by omega), jk i (by omega), jb i (by omega)]
      exact w2
    | inr w =>
      refine Or.inr ⟨w.1, w.2.1, fun i g3 => ?_⟩
      by_cases e : i = c0
      · intro _ _ _; subst e; omega
      · rw [jo i e, jk i e, jb i e]; exact w.2.2 i (by omega)
  · intro i m g1 g2 g3
    have em : m ≠ c0 := by omega
    have := a8 m g2 g3
    by_cases e : i = c0
    · intro _ _ z
      rw [jb m em] at z
      subst e; omega
    · unfold hp_past
      rw [jo m em, jk m em, jb m em, jd m em, jo i e, jk i e, jb i e, jd i e]
      exact a13 i m (by omega) g2 g3
  · intro i g1
    rw [jo (200 + i) (by omega), jk (200 + i) (by omega), jb (200 + i) (by omega), jd (200 + i) (by omega), jv (200 + i) (by omega),
      jo i (by omega), jk i (by omega), jb i (by omega), jd i (by omega), jv i (by omega)]
    exact s2 i g1
  · intro i g1 g2
    by_cases e : i = c0
    · subst e; exact hb
    · rw [jb i e]; exact s3 i g1 (by omega)
end
section
/-- a volume (from s on, c records) lost some records, each with Q; the rest was moved about -/
def hp_Sq (Q : Int32 → Int32 → Prop) (s c c' : Nat) (o k b d o' k' b' d' : Nat → Int32) : Prop :=
  c' ≤ c ∧ ∃ f : Nat → Nat, (∀ j, s ≤ j → j < s + c' → s ≤ f j ∧ f j < s + c ∧ o' j = o (f j) ∧ k' j = k (f j) ∧ b' j = b (f j) ∧ d' j = d (f j)) ∧
  (∀ i j, s ≤ i → i < s + c' → s ≤ j → j < s + c' → f i = f j → i = j) ∧
  (∀ i, s ≤ i → i < s + c → (∃ j, s ≤ j ∧ j < s + c' ∧ f j = i) ∨ Q (b i) (d i)) ∧
  (∀ j, j < s ∨ s + c ≤ j → o' j = o j ∧ k' j = k j ∧ b' j = b j ∧ d' j = d j)
theorem hp_Sq_0 (Q : Int32 → Int32 → Prop) (s c : Nat) (o k b d : Nat → Int32) : hp_Sq Q s c c o k b d o k b d :=
  ⟨Nat.le_refl c, fun j => j, fun j h1 h2 => ⟨h1, h2, rfl, rfl, rfl, rfl⟩, fun i j _ _ _ _ h => h, fun i h1 h2 => Or.inl ⟨i, h1, h2, rfl⟩, fun j _ => ⟨rfl, rfl, rfl, rfl⟩⟩
theorem hp_Sq_s {Q : Int32 → Int32 → Prop} {s c c' i : Nat} {o k b d o' k' b' d' : Nat → Int32}
    (h : hp_Sq Q s c (c' + 1) o k b d o' k' b' d') (h1 : s ≤ i) (h2 : i < s + (c' + 1)) (hQ : Q (b' i) (d' i)) :
    hp_Sq Q s c c' o k b d (upd o' i (o' (s + c'))) (upd k' i (k' (s + c'))) (upd b' i (b' (s + c'))) (upd d' i (d' (s + c'))) := by
  obtain ⟨hc, f, f1, f2, f3, f4⟩ := h
  refine ⟨by omega, fun j => if j = i then f (s + c') else f j, ?_, ?_, ?_, ?_⟩
  · intro j g1 g2
    by_cases e : j = i
    · subst e
      dsimp only
      rw [if_pos rfl, pk_us, pk_us, pk_us, pk_us]
      exact f1 _ (by omega) (by omega)
    · dsimp only
      rw [if_neg e, pk_un e, pk_un e, pk_un e, pk_un e]
      exact f1 _ (by omega) (by omega)
  · intro a j g1 g2 g3 g4
    dsimp only
    by_cases e : a = i
    · by_cases e2 : j = i
      · intro _; omega
      · rw [if_pos e, if_neg e2]
        intro g
        have := f2 _ _ (by omega) (by omega) (by omega) (by omega) g
        omega
    · by_cases e2 : j = i
      · rw [if_neg e, if_pos e2]
        intro g
        have := f2 _ _ (by omega) (by omega) (by omega) (by omega) g
        omega
      · rw [if_neg e, if_neg e2]
        intro g
        exact f2 _ _ (by omega) (by omega) (by omega) (by omega) g
  · intro a g1 g2
    cases f3 a g1 g2 with
    | inr q => exact Or.inr q
    | inl q =>
      obtain ⟨j, q1, q2, q3⟩ := q
      by_cases e : j = i
      · subst e
        have := f1 j q1 q2
        rw [this.2.2.2.2.1, this.2.2.2.2.2, q3] at hQ
        exact Or.inr hQ
      · by_cases e2 : j = s + c'
        · refine Or.inl ⟨i, h1, by omega, ?_⟩
          dsimp only
          rw [if_pos rfl, ← e2]; exact q3
        · refine Or.inl ⟨j, q1, by omega, ?_⟩
          dsimp only
          rw [if_neg e]; exact q3
  · intro j g
    have e : j ≠ i := by omega
    rw [pk_un e, pk_un e, pk_un e, pk_un e]
    exact f4 j g
theorem hp_sub0 {Q : Int32 → Int32 → Prop} {D E U G c0 c1 c' : Nat} {S S1 : Prop} {o k b d o' k' b' d' : Nat → Int32} {x y z : Int32}
    (h : hp_J D E U G c0 c1 S S1 o k b d x y z) (q : hp_Sq Q 0 c0 c' o k b d o' k' b' d')
    (hQ : ∀ i, i < c0 → Q (b i) (d i) → (D : Int) < (b i).toInt ∨ ((d i).toInt ≠ 0 ∧ (d i).toInt ≤ (U : Int))) :
    hp_J D E U G c' c1 S S1 o' k' b' d' x y z := by
  obtain ⟨a1, a2, a3, a4, a5, a6, a7, a8, a9, a10, a11, a12, a13⟩ := h
  obtain ⟨hc, f, f1, f2, f3, f4⟩ := q
  refine ⟨by omega, a2, a3, a4, a5, ?_, ?_, ?_, ?_, ?_, ?_, ?_, ?_⟩
  · intro s
    refine ⟨(a6 s).1, fun m g1 g2 => ?_⟩
    rw [(f4 m (by omega)).2.2.1]; exact (a6 s).2 m g1 g2
  · intro i g1 g2
    obtain ⟨r1, r2, r3, r4, r5, r6⟩ := f1 i g1 g2
    rw [r5, r6]; exact a7 _ r1 r2
  · intro i g1 g2
    obtain ⟨r3, r4, r5, r6⟩ := f4 i (by omega)
    rw [r5, r6]; exact a8 _ g1 g2
  · intro i j g1 g2 g3 g4 g5
    obtain ⟨r1, r2, r3, r4, r5, r6⟩ := f1 i g1 g2
    obtain ⟨t1, t2, t3, t4, t5, t6⟩ := f1 j g3 g4
    rw [r3, r4, r5, r6, t3, t4, t5]
    exact a9 _ _ r1 r2 t1 t2 (fun z => g5 (f2 i j g1 g2 g3 g4 z))
  · intro i j g1 g2 g3 g4 g5
    obtain ⟨r3, r4, r5, r6⟩ := f4 i (by omega)
    obtain ⟨t3, t4, t5, t6⟩ := f4 j (by omega)
    rw [r3, r4, r5, r6, t3, t4, t5]
    exact a10 _ _ g1 g2 g3 g4 g5
  · intro i m g1 g2 g3
    obtain ⟨r1, r2, r3, r4, r5, r6⟩ := f1 i (by omega) (by omega)
    obtain ⟨t3, t4, t5, t6⟩ := f4 m (by omega)
    rw [r3, r4, r5, r6, t3, t4, t5]
    exact a11 _ _ (by omega) g2 g3
  · intro m g1 g2
    obtain ⟨t3, t4, t5, t6⟩ := f4 m (by omega)
    rw [t3, t4, t5, t6]
    cases a12 m g1 g2 with
    | inl w =>
      obtain ⟨i, w1, w2, w3, w4⟩ := w
      cases f3 i (by omega) (by omega) with
      | inl p =>
        obtain ⟨j, p1, p2, p3⟩ := p
        obtain ⟨r1, r2, r3, r4, r5, r6⟩ := f1 j p1 p2
        refine Or.inl ⟨j, by omega, ?_⟩
        rw [r3, r4, r5, p3]
        exact ⟨w2, w3, w4⟩
      | inr p =>
        have h1 := a8 m g1 g2
        have h2 := hQ i w1 p
        have h3 := a13 i m w1 g1 g2 w2 w3 w4
        have h4 : (d m).toInt = (d i).toInt := by omega
        by_cases ex : ∃ j, j < c' ∧ f j = i
        · obtain ⟨j, p1, p3⟩ := ex
          obtain ⟨r1, r2, r3, r4, r5, r6⟩ := f1 j (by omega) (by omega)
          refine Or.inl ⟨j, by omega, ?_⟩
          rw [r3, r4, r5, p3]
          exact ⟨w2, w3, w4⟩
        · refine Or.inr ⟨by omega, by omega, fun j p1 => ?_⟩
          obtain ⟨r1, r2, r3, r4, r5, r6⟩ := f1 j (by omega) (by omega)
          rw [r3, r4, r5]
          intro p2 p3 p4
          have h5 := a9 i (f j) (by omega) (by omega) (by omega) (by omega) (fun z => ex ⟨j, p1, z.symm⟩) (w2.trans p2.symm) (w3.trans p3.symm)
          omega
    | inr w =>
      refine Or.inr ⟨w.1, w.2.1, fun i p1 => ?_⟩
      obtain ⟨r1, r2, r3, r4, r5, r6⟩ := f1 i (by omega) (by omega)
      rw [r3, r4, r5]
      exact w.2.2 _ (by omega)
  · intro i m g1 g2 g3
    obtain ⟨r1, r2, r3, r4, r5, r6⟩ := f1 i (by omega) (by omega)
    obtain ⟨t3, t4, t5, t6⟩ := f4 m (by omega)
    unfold hp_past
    rw [r3, r4, r5, r6, t3, t4, t5, t6]
    exact a13 _ _ (by omega) g2 g3
theorem hp_sub1 {Q : Int32 → Int32 → Prop} {D E U G c0 c1 c' : Nat} {S S1 : Prop} {o k b d o' k' b' d' : Nat → Int32} {x y z : Int32}
    (h : hp_J D E U G c0 c1 S S1 o k b d x y z) (q : hp_Sq Q 100 c1 c' o k b d o' k' b' d') :
    hp_J D E U G c0 c' S S1 o' k' b' d' x y z := by
  obtain ⟨a1, a2, a3, a4, a5, a6, a7, a8, a9, a10, a11, a12, a13⟩ := h
  obtain ⟨hc, f, f1, f2, f3, f4⟩ := q
  refine ⟨a1, by omega, a3, a4, a5, ?_, ?_, ?_, ?_, ?_, ?_, ?_, ?_⟩
  · intro s
    refine ⟨(a6 s).1, fun m g1 g2 => ?_⟩
    obtain ⟨r1, r2, r3, r4, r5, r6⟩ := f1 m g1 g2
    rw [r5]; exact (a6 s).2 _ r1 r2
  · intro i g1 g2
    obtain ⟨r3, r4, r5, r6⟩ := f4 i (by omega)
    rw [r5, r6]; exact a7 _ g1 g2
  · intro i g1 g2
    obtain ⟨r1, r2, r3, r4, r5, r6⟩ := f1 i g1 g2
    rw [r5, r6]; exact a8 _ r1 r2
  · intro i j g1 g2 g3 g4 g5
    obtain ⟨r3, r4, r5, r6⟩ := f4 i (by omega)
    obtain ⟨t3, t4, t5, t6⟩ := f4 j (by omega)
    rw [r3, r4, r5, r6, t3, t4, t5]
    exact a9 _ _ g1 g2 g3 g4 g5
  · intro i j g1 g2 g3 g4 g5
    obtain ⟨r1, r2, r3, r4, r5, r6⟩ := f1 i g1 g2
    obtain ⟨t1, t2, t3, t4, t5, t6⟩ := f1 j g3 g4
    rw [r3, r4, r5, r6, t3, t4, t5]
    exact a10 _ _ r1 r2 t1 t2 (fun z => g5 (f2 i j g1 g2 g3 g4 z))
  · intro i m g1 g2 g3
    obtain ⟨r3, r4, r5, r6⟩ := f4 i (by omega)
    obtain ⟨t1, t2, t3, t4, t5, t6⟩ := f1 m g2 g3
    rw [r3, r4, r5, r6, t3, t4, t5]
    exact a11 _ _ g1 t1 t2
  · intro m g1 g2
    obtain ⟨t1, t2, t3, t4, t5, t6⟩ := f1 m g1 g2
    rw [t3, t4, t5, t6]
    cases a12 _ t1 t2 with
    | inl w =>
      obtain ⟨i, w1, w2⟩ := w
      obtain ⟨r3, r4, r5, r6⟩ := f4 i (by omega)
      refine Or.inl ⟨i, w1, ?_⟩
      rw [r3, r4, r5]; exact w2
    | inr w =>
      refine Or.inr ⟨w.1, w.2.1, fun i p1 => ?_⟩
      obtain ⟨r3, r4, r5, r6⟩ := f4 i (by omega)
      rw [r3, r4, r5]
      exact w.2.2 _ p1
  · intro i m g1 g2 g3
    obtain ⟨r3, r4, r5, r6⟩ := f4 i (by omega)
    obtain ⟨t1, t2, t3, t4, t5, t6⟩ := f1 m g2 g3
    unfold hp_past
    rw [r3, r4, r5, r6, t3, t4, t5, t6]
    exact a13 _ _ g1 t1 t2
theorem hp_low {D U G c0 c1 c2 : Nat} {S S1 : Prop} {o k b d v : Nat → Int32} {x y z : Int32}
    (h : hp_Inv D 0 U G c0 c1 c2 S S1 o k b d v x y z) : hp_J D D U G c0 c1 S S1 o k b d x y z := by
  obtain ⟨b1, ⟨a1, a2, a3, a4, a5, a6, a7, a8, a9, a10, a11, a12, a13⟩, ⟨s1, s2, s3⟩, b4⟩ := h
  refine ⟨a1, a2, a3, a4, Nat.le_refl D, a6, ?_, a8, a9, a10, a11, a12, a13⟩
  obtain ⟨e, b5⟩ := b4 rfl
  intro i g1 g2
  have := a7 i g1 g2
  have := s2 i (by omega)
  have := b5 i (by omega)
  omega
/-- the master as it stands is what abort brings back -/
theorem hp_fin {D U G c0 c1 : Nat} {S S1 : Prop} {o k b d v : Nat → Int32} {x y z : Int32}
    (h : hp_J D D U G c0 c1 S S1 o k b d x y z) : hp_Inv D 0 U G c0 c1 c0 S S1 (hb_cp 0 200 c0 o) (hb_cp 0 200 c0 k) (hb_cp 0 200 c0 b) (hb_cp 0 200 c0 d) (hb_cp 0 200 c0 v) x y z := by
  have hA : ∀ (a : Nat → Int32) (j : Nat), j < 200 → hb_cp 0 200 c0 a j = a j := fun a j hj => if_neg (by omega)
  have hB : ∀ (a : Nat → Int32) (j : Nat), j < c0 → hb_cp 0 200 c0 a (200 + j) = a j := fun a j hj => by
    unfold hb_cp
    rw [if_pos (by omega)]; exact congrArg a (by omega)
  have hJ := hp_J_congr (hp_J_mono h (Nat.le_refl D) (Nat.le_succ D) (by omega) id id) (hA o) (hA k) (hA b) (hA d)
  obtain ⟨a1, a2, a3, a4, a5, a6, a7, a8, a9⟩ := h
  refine ⟨by omega, hJ, ⟨Nat.le_refl c0, ?_, fun i g1 g2 => by omega⟩, fun _ => ⟨rfl, ?_⟩⟩
  · intro i hi
    have := a7 i (by omega) (by omega)
    rw [hB o i hi, hB k i hi, hB b i hi, hB d i hi, hB v i hi, hA o i (by omega), hA k i (by omega), hA b i (by omega), hA d i (by omega), hA v i (by omega)]
    exact ⟨rfl, rfl, rfl, rfl, by omega, fun z => by omega, fun _ => rfl⟩
  · intro i hi
    have := a7 i (by omega) (by omega)
    rw [hA d i (by omega)]; omega
theorem hp_abort {D C U G c0 c1 c2 : Nat} {S S1 : Prop} {o k b d v : Nat → Int32} {x y z : Int32}
    (h : hp_Inv D C U G c0 c1 c2 S S1 o k b d v x y z) :
    hp_Inv D 0 U G c2 c1 c2 S S1 (hb_cp 200 0 c2 o) (hb_cp 200 0 c2 k) (hb_cp 200 0 c2 b) (hb_cp 200 0 c2 d) (hb_cp 200 0 c2 v) x y z := by
  have hA : ∀ (a : Nat → Int32) (j : Nat), c2 ≤ j → hb_cp 200 0 c2 a j = a j := fun a j hj => if_neg (by omega)
  have hB : ∀ (a : Nat → Int32) (j : Nat), j < c2 → hb_cp 200 0 c2 a j = a (200 + j) := fun a j hj => by
    unfold hb_cp
    rw [if_pos (by omega)]; exact congrArg a (by omega)
  obtain ⟨b1, ⟨a1, a2, a3, a4, a5, a6, a7, a8, a9, a10, a11, a12, a13⟩, ⟨s1, s2, s3⟩, b4⟩ := h
  have hO : ∀ j, j < c2 → hb_cp 200 0 c2 o j = o j := fun j hj => (hB o j hj).trans (s2 j hj).1
  have hK : ∀ j, j < c2 → hb_cp 200 0 c2 k j = k j := fun j hj => (hB k j hj).trans (s2 j hj).2.1
  have hBb : ∀ j, j < c2 → hb_cp 200 0 c2 b j = b j := fun j hj => (hB b j hj).trans (s2 j hj).2.2.1
  have hV : ∀ j, j < c2 → hb_cp 200 0 c2 v j = v j := fun j hj => (hB v j hj).trans (s2 j hj).2.2.2.1
  refine ⟨by omega, ⟨by omega, a2, a3, a4, a5, ?_, ?_, ?_, ?_, ?_, ?_, ?_, ?_⟩, ⟨Nat.le_refl c2, ?_, fun i g1 g2 => by omega⟩, fun _ => ⟨rfl, ?_⟩⟩
  · intro s
    refine ⟨(a6 s).1, fun m g1 g2 => ?_⟩
    rw [hA b m (by omega)]; exact (a6 s).2 m g1 g2
  · intro i g1 g2
    have := a7 i g1 (by omega)
    have := s2 i (by omega)
    rw [hBb i (by omega), hB d i (by omega)]; omega
  · intro i g1 g2
    rw [hA b i (by omega), hA d i (by omega)]; exact a8 i g1 g2
  · intro i j g1 g2 g3 g4 g5
    rw [hO i (by omega), hO j (by omega), hK i (by omega), hK j (by omega), hBb i (by omega), hBb j (by omega), hB d i (by omega)]
    intro g6 g7
    have := a9 i j g1 (by omega) g3 (by omega) g5 g6 g7
    have := s2 i (by omega)
    have := s2 j (by omega)
    omega
  · intro i j g1 g2 g3 g4
    rw [hA o i (by omega), hA o j (by omega), hA k i (by omega), hA k j (by omega), hA b i (by omega), hA b j (by omega), hA d i (by omega)]
    exact a10 i j g1 g2 g3 g4
  · intro i m g1 g2 g3
    rw [hO i g1, hK i g1, hBb i g1, hB d i g1, hA o m (by omega), hA k m (by omega), hA b m (by omega)]
    intro g4 g5 g6
    have := a11 i m (by omega) g2 g3 g4 g5 g6
    have := a8 m g2 g3
    have := s2 i (by omega)
    omega
  · intro m g1 g2
    have := a8 m g1 g2
    rw [hA o m (by omega), hA k m (by omega), hA b m (by omega), hA d m (by omega)]
    cases a12 m g1 g2 with
    | inl w =>
      obtain ⟨i, w1, w2, w3, w4⟩ := w
      by_cases e : i < c2
      · refine Or.inl ⟨i, e, ?_⟩
        rw [hO i e, hK i e, hBb i e]; exact ⟨w2, w3, w4⟩
      · have := s3 i (by omega) w1
        omega
    | inr w =>
      refine Or.inr ⟨w.1, w.2.1, fun i p1 => ?_⟩
      rw [hO i p1, hK i p1, hBb i p1]
      exact w.2.2 i (by omega)
  · intro i m g1 g2 g3
    unfold hp_past
    rw [hO i g1, hK i g1, hBb i g1, hB d i g1, hA o m (by omega), hA k m (by omega), hA b m (by omega), hA d m (by omega)]
    intro g4 g5 g6
    have q1 := a8 m g2 g3
    have q2 := s2 i (by omega)
    cases a13 i m (by omega) g2 g3 g4 g5 g6 with
    | inl w => exact Or.inl (by omega)
    | inr w =>
      by_cases e : (d i).toInt = (D : Int) + 1
      · exact Or.inl (by omega)
      · have q3 := q2.2.2.2.2.2.2 e
        rw [q3]
        exact Or.inr w
  · intro i hi
    have q2 := s2 i hi
    have q3 := a7 i (by omega) (by omega)
    rw [hA o (200 + i) (by omega), hA k (200 + i) (by omega), hA b (200 + i) (by omega), hA d (200 + i) (by omega), hA v (200 + i) (by omega),
      hB o i hi, hB k i hi, hB b i hi, hB d i hi, hB v i hi]
    refine ⟨rfl, rfl, rfl, rfl, ?_, fun z => by omega, fun _ => rfl⟩
    rw [q2.2.2.1]; exact q2.2.2.2.2.1
  · intro i hi
    have q2 := s2 i hi
    have q3 := a7 i (by omega) (by omega)
    rw [hB d i hi]; omega
theorem hp_start {D E U G c0 c1 : Nat} {S S1 S' S1' : Prop} {o k b d : Nat → Int32} {x y z : Int32}
    (h : hp_J D E U G c0 c1 S S1 o k b d x y z) (hS : ¬ S1') : hp_J D E U D c0 c1 S' S1' o k b d x y z := by
  obtain ⟨a1, a2, a3, a4, a5, a6, a7, a8, a9, a10, a11, a12, a13⟩ := h
  refine ⟨a1, a2, a3, Nat.le_refl D, a5, fun _ => ⟨a3, fun m g1 g2 => (a8 m g1 g2).2.1⟩, a7, a8, a9, a10, a11, a12, ?_⟩
  intro i m g1 g2 g3 g4 g5 g6
  cases a13 i m g1 g2 g3 g4 g5 g6 with
  | inl w => exact Or.inl w
  | inr w => exact Or.inr ⟨w.1, w.2.1, fun z => absurd z hS⟩
def hp_due (U G : Nat) (b d : Nat → Int32) (i : Nat) : Prop := (b i).toInt ≤ (G : Int) ∧ ((U : Int) < (b i).toInt ∨ ((U : Int) < (d i).toInt ∧ (d i).toInt ≤ (G : Int)))
theorem hp_stop {D E U G c0 c1 : Nat} {S S1 S' S1' : Prop} {o k b d : Nat → Int32} {x y z : Int32}
    (h : hp_J D E U G c0 c1 S S1 o k b d x y z) (hs : S) (hS : ¬ S') (hS1 : ¬ S1')
    (hn : ∀ i, i < c0 → hp_due U G b d i → (S1 → hp_past o k b x y z i) → False) : hp_J D E G G c0 c1 S' S1' o k b d x y z := by
  obtain ⟨a1, a2, a3, a4, a5, a6, a7, a8, a9, a10, a11, a12, a13⟩ := h
  obtain ⟨c, c'⟩ := a6 hs
  refine ⟨a1, a2, a4, a4, a5, fun z => absurd z hS, a7, a8, a9, a10, a11, ?_, ?_⟩
  · intro m g1 g2
    cases a12 m g1 g2 with
    | inl w => exact Or.inl w
    | inr w => exact Or.inr ⟨w.1, by omega, w.2.2⟩
  · intro i m g1 g2 g3 g4 g5 g6
    cases a13 i m g1 g2 g3 g4 g5 g6 with
    | inl w => exact Or.inl w
    | inr w =>
      refine Or.inr ⟨w.1, ?_, fun z => absurd z hS1⟩
      by_cases e : (d i).toInt ≤ (G : Int)
      · have := c' m g2 g3
        exact (hn i g1 ⟨by omega, Or.inr ⟨w.2.1, e⟩⟩ (fun s => w.2.2 s e)).elim
      · omega
/-- what lies in the mirror beside the record that is sent -/
theorem hp_key {D E U G c0 c1 s : Nat} {S S1 : Prop} {o k b d : Nat → Int32} {x y z : Int32}
    (h : hp_J D E U G c0 c1 S S1 o k b d x y z) (hs : S) (hc : s < c0) (hdue : hp_due U G b d s)
    (hmin : ∀ i, i < c0 → hp_due U G b d i → (S1 → hp_past o k b x y z i) → i = s ∨ hp_past o k b (o s) (k s) (b s) i) (w : Int32)
    (hw1 : (d s).toInt ≤ (G : Int) → w.toInt = (d s).toInt) :
    ∀ m, 100 ≤ m → m < 100 + c1 → o s = o m → k s = k m →
      ((b m).toInt < (b s).toInt → (d m).toInt ≠ 0 ∧ (d m).toInt ≤ (b s).toInt) ∧ ((b s).toInt < (b m).toInt → w.toInt ≠ 0 ∧ w.toInt ≤ (b m).toInt) := by
  obtain ⟨a1, a2, a3, a4, a5, a6, a7, a8, a9, a10, a11, a12, a13⟩ := h
  obtain ⟨c, c'⟩ := a6 hs
  intro m g1 g2 g3 g4
  constructor
  · intro g5
    cases a12 m g1 g2 with
    | inr q =>
      have := q.2.2 s hc g3 g4 g5
      exact ⟨q.1, this⟩
    | inl q =>
      obtain ⟨i, q1, q2, q3, q4⟩ := q
      have e : i ≠ s := fun z => by subst z; omega
      have r1 := a9 i s (by omega) (by omega) (by omega) (by omega) e (q2.trans g3.symm) (q3.trans g4.symm)
      have r2 := c' m g1 g2
      obtain ⟨d1, d2⟩ := hdue
      cases a13 i m q1 g1 g2 q2 q3 q4 with
      | inl p => omega
      | inr p =>
        have e2 : (d i).toInt ≤ (G : Int) := by omega
        cases hmin i q1 ⟨by omega, Or.inr ⟨p.2.1, e2⟩⟩ (fun s => p.2.2 s e2) with
        | inl z => exact absurd z e
        | inr z =>
          unfold hp_past at z
          rw [q2.trans g3.symm, q3.trans g4.symm] at z
          omega
  · intro g5
    have r1 := a11 s m hc g1 g2 g3 g4 g5
    have r2 := c' m g1 g2
    have r3 := hw1 (by omega)
    omega
theorem hp_send3 {D E U G c0 c1 s i : Nat} {S S1 S1' : Prop} {o k b d : Nat → Int32} {x y z : Int32}
    (h : hp_J D E U G c0 c1 S S1 o k b d x y z) (hs : S)
    (hmin : ∀ i, i < c0 → hp_due U G b d i → (S1 → hp_past o k b x y z i) → i = s ∨ hp_past o k b (o s) (k s) (b s) i)
    (hi : i < c0) (e : i ≠ s) {m : Nat} (g2 : 100 ≤ m) (g3 : m < 100 + c1) (g4 : o i = o m) (g5 : k i = k m) (g6 : (b i).toInt = (b m).toInt) :
    (d m).toInt = (d i).toInt ∨ ((d m).toInt = 0 ∧ (U : Int) < (d i).toInt ∧ (S1' → (d i).toInt ≤ (G : Int) → hp_past o k b (o s) (k s) (b s) i)) := by
  obtain ⟨a1, a2, a3, a4, a5, a6, a7, a8, a9, a10, a11, a12, a13⟩ := h
  obtain ⟨c, c'⟩ := a6 hs
  cases a13 i m hi g2 g3 g4 g5 g6 with
  | inl q => exact Or.inl q
  | inr q =>
    refine Or.inr ⟨q.1, q.2.1, fun _ hg => ?_⟩
    have := c' m g2 g3
    cases hmin i hi ⟨by omega, Or.inr ⟨q.2.1, hg⟩⟩ (fun s => q.2.2 s hg) with
    | inl z => exact absurd z e
    | inr z => exact z
theorem hp_sendT {D E U G c0 c1 s t : Nat} {S S1 S1' : Prop} {o k b d d' : Nat → Int32} {x y z : Int32}
    (h : hp_J D E U G c0 c1 S S1 o k b d x y z) (hs : S) (hc : s < c0) (hdue : hp_due U G b d s)
    (hmin : ∀ i, i < c0 → hp_due U G b d i → (S1 → hp_past o k b x y z i) → i = s ∨ hp_past o k b (o s) (k s) (b s) i)
    (t1 : 100 ≤ t) (t2 : t < 100 + c1) (t3 : o t = o s) (t4 : k t = k s) (t5 : b t = b s)
    (hw1 : (d s).toInt ≤ (G : Int) → (d' t).toInt = (d s).toInt) (hw2 : ¬ (d s).toInt ≤ (G : Int) → (d' t).toInt = 0)
    (jd : ∀ i, i ≠ t → d' i = d i) :
    hp_J D E U G c0 c1 S S1' o k b d' (o s) (k s) (b s) := by
  have hk := hp_key h hs hc hdue hmin (d' t) hw1
  have h3 := fun i (hi : i < c0) (e : i ≠ s) => @hp_send3 D E U G c0 c1 s i S S1 S1' o k b d x y z h hs hmin hi e
  obtain ⟨a1, a2, a3, a4, a5, a6, a7, a8, a9, a10, a11, a12, a13⟩ := h
  have ts := a7 s (by omega) (by omega)
  have tu := (a6 hs).1
  refine ⟨a1, a2, a3, a4, a5, a6, ?_, ?_, ?_, ?_, ?_, ?_, ?_⟩
  · intro i g1 g2
    rw [jd i (by omega)]; exact a7 i g1 g2
  · intro i g1 g2
    have := a8 i g1 g2
    by_cases e : i = t
    · subst e; omega
    · rw [jd i e]; exact this
  · intro i j g1 g2
    rw [jd i (by omega)]; exact a9 i j g1 g2
  · intro i j g1 g2 g3 g4 g5 g6 g7
    have r := a10 i j g1 g2 g3 g4 g5 g6 g7
    by_cases e : i = t
    · subst e
      refine ⟨r.1, fun z => ?_⟩
      rw [t5] at z
      exact (hk j g3 g4 (t3.symm.trans g6) (t4.symm.trans g7)).2 z
    · rw [jd i e]; exact r
  · intro i m g1 g2 g3
    rw [jd i (by omega)]; exact a11 i m g1 g2 g3
  · intro m g1 g2
    by_cases e : m = t
    · subst e
      exact Or.inl ⟨s, hc, t3.symm, t4.symm, by rw [t5]⟩
    · rw [jd m e]; exact a12 m g1 g2
  · intro i m g1 g2 g3 g4 g5 g6
    rw [jd i (by omega)]
    by_cases e : i = s
    · subst e
      by_cases e2 : m = t
      · subst e2
        by_cases z : (d i).toInt ≤ (G : Int)
        · exact Or.inl (hw1 z)
        · exact Or.inr ⟨hw2 z, by omega, fun _ y => absurd y z⟩
      · have := a10 m t g2 g3 t1 t2 e2 (g4.symm.trans t3.symm) (g5.symm.trans t4.symm)
        rw [t5] at this
        omega
    · have e2 : m ≠ t := by
        intro z
        subst z
        have := a9 i s (by omega) (by omega) (by omega) (by omega) e (g4.trans t3) (g5.trans t4)
        rw [t5] at g6
        omega
      rw [jd m e2]
      exact h3 i g1 e g2 g3 g4 g5 g6
theorem hp_sendA {D E U G c0 c1 s : Nat} {S S1 S1' : Prop} {o k b d o' k' b' d' : Nat → Int32} {x y z : Int32}
    (h : hp_J D E U G c0 c1 S S1 o k b d x y z) (hs : S) (hc : s < c0) (hdue : hp_due U G b d s)
    (hmin : ∀ i, i < c0 → hp_due U G b d i → (S1 → hp_past o k b x y z i) → i = s ∨ hp_past o k b (o s) (k s) (b s) i)
    (hc1 : c1 < 100) (hn : ∀ m, 100 ≤ m → m < 100 + c1 → o m = o s → k m = k s → (b m).toInt ≠ (b s).toInt)
    (t3 : o' (100 + c1) = o s) (t4 : k' (100 + c1) = k s) (t5 : b' (100 + c1) = b s)
    (hw1 : (d s).toInt ≤ (G : Int) → (d' (100 + c1)).toInt = (d s).toInt) (hw2 : ¬ (d s).toInt ≤ (G : Int) → (d' (100 + c1)).toInt = 0)
    (jo : ∀ i, i ≠ 100 + c1 → o' i = o i) (jk : ∀ i, i ≠ 100 + c1 → k' i = k i) (jb : ∀ i, i ≠ 100 + c1 → b' i = b i) (jd : ∀ i, i ≠ 100 + c1 → d' i = d i) :
    hp_J D E U G c0 (c1 + 1) S S1' o' k' b' d' (o s) (k s) (b s) := by
  have hk := hp_key h hs hc hdue hmin (d' (100 + c1)) hw1
  have h3 := fun i (hi : i < c0) (e : i ≠ s) => @hp_send3 D E U G c0 c1 s i S S1 S1' o k b d x y z h hs hmin hi e
  obtain ⟨a1, a2, a3, a4, a5, a6, a7, a8, a9, a10, a11, a12, a13⟩ := h
  have ts := a7 s (by omega) (by omega)
  obtain ⟨d1, d2⟩ := hdue
  refine ⟨a1, by omega, a3, a4, a5, ?_, ?_, ?_, ?_, ?_, ?_, ?_, ?_⟩
  · intro q
    refine ⟨(a6 q).1, fun m g1 g2 => ?_⟩
    by_cases e : m = 100 + c1
    · rw [e, t5]; exact d1
    · rw [jb m e]; exact (a6 q).2 m g1 (by omega)
  · intro i g1 g2
    rw [jb i (by omega), jd i (by omega)]; exact a7 i g1 g2
  · intro i g1 g2
    by_cases e : i = 100 + c1
    · subst e
      rw [t5]
      omega
    · rw [jb i e, jd i e]; exact a8 i g1 (by omega)
  · intro i j g1 g2 g3 g4
    rw [jo i (by omega), jo j (by omega), jk i (by omega), jk j (by omega), jb i (by omega), jb j (by omega), jd i (by omega)]
    exact a9 i j g1 g2 g3 g4
  · intro i j g1 g2 g3 g4 g5
    by_cases e : i = 100 + c1
    · have e2 : j ≠ 100 + c1 := by omega
      rw [e, t3, t4, t5, jo j e2, jk j e2, jb j e2]
      intro g6 g7
      have r := hn j g3 (by omega) g6.symm g7.symm
      exact ⟨fun z => r z.symm, (hk j g3 (by omega) g6 g7).2⟩
    · by_cases e2 : j = 100 + c1
      · rw [e2, t3, t4, t5, jo i e, jk i e, jb i e, jd i e]
        intro g6 g7
        exact ⟨hn i g1 (by omega) g6 g7, (hk i g1 (by omega) g6.symm g7.symm).1⟩
      · rw [jo i e, jk i e, jb i e, jd i e, jo j e2, jk j e2, jb j e2]
        exact a10 i j g1 (by omega) g3 (by omega) g5
  · intro i m g1 g2 g3
    rw [jo i (by omega), jk i (by omega), jb i (by omega), jd i (by omega)]
    by_cases e : m = 100 + c1
    · rw [e, t3, t4, t5]
      intro g4 g5 g6
      have e3 : i ≠ s := fun z => by subst z; omega
      exact (a9 i s (by omega) (by omega) (by omega) (by omega) e3 g4 g5).2 g6
    · rw [jo m e, jk m e, jb m e]
      exact a11 i m g1 g2 (by omega)
  · intro m g1 g2
    by_cases e : m = 100 + c1
    · refine Or.inl ⟨s, hc, ?_⟩
      rw [e, t3, t4, t5, jo s (by omega), jk s (by omega), jb s (by omega)]
      exact ⟨rfl, rfl, rfl⟩
    · rw [jo m e, jk m e, jb m e, jd m e]
      cases a12 m g1 (by omega) with
      | inl w =>
        obtain ⟨i, w1, w2⟩ := w
        refine Or.inl ⟨i, w1, ?_⟩
        rw [jo i (by omega), jk i (by omega), jb i (by omega)]; exact w2
      | inr w =>
        refine Or.inr ⟨w.1, w.2.1, fun i p1 => ?_⟩
        rw [jo i (by omega), jk i (by omega), jb i (by omega)]
        exact w.2.2 i p1
  · intro i m g1 g2 g3
    unfold hp_past
    rw [jo i (by omega), jk i (by omega), jb i (by omega), jd i (by omega)]
    by_cases e : m = 100 + c1
    · rw [e, t3, t4, t5]
      intro g4 g5 g6
      by_cases e3 : i = s
      · subst e3
        by_cases z : (d i).toInt ≤ (G : Int)
        · exact Or.inl (hw1 z)
        · exact Or.inr ⟨hw2 z, by omega, fun _ y => absurd y z⟩
      · have := a9 i s (by omega) (by omega) (by omega) (by omega) e3 g4 g5
        omega
    · rw [jo m e, jk m e, jb m e, jd m e]
      intro g4 g5 g6
      by_cases e3 : i = s
      · subst e3
        exact absurd g6.symm (hn m g2 (by omega) g4.symm g5.symm)
      · exact h3 i g1 e3 g2 (by omega) g4 g5 g6
end
section
def hb_nx (p : Nat → Bool) (l : Nat → Nat → Bool) (j : Nat) : Option Nat → Option Nat
  | none => if p j = true then some j else none
  | some i => if p j = true ∧ l j i = true then some j else some i
theorem hb_bs_0 {p : Nat → Bool} {l : Nat → Nat → Bool} {j : Nat} {b : Option Nat} : hb_bs p l 0 j b = b := by cases b <;> rfl
theorem hb_bs_1 {p : Nat → Bool} {l : Nat → Nat → Bool} {d j : Nat} {b : Option Nat} : hb_bs p l (d + 1) j b = hb_bs p l d (j + 1) (hb_nx p l j b) := by cases b <;> rfl
theorem hb_nx_f {p : Nat → Bool} {l : Nat → Nat → Bool} {j : Nat} {b : Option Nat} (h : ¬ p j = true) : hb_nx p l j b = b := by
  cases b with
  | none => exact if_neg h
  | some i => exact if_neg (fun z => h z.1)
theorem hb_nx_n {p : Nat → Bool} {l : Nat → Nat → Bool} {j : Nat} (h : p j = true) : hb_nx p l j none = some j := if_pos h
theorem hb_nx_t {p : Nat → Bool} {l : Nat → Nat → Bool} {j i : Nat} (h : p j = true) (h2 : l j i = true) : hb_nx p l j (some i) = some j := if_pos ⟨h, h2⟩
theorem hb_nx_k {p : Nat → Bool} {l : Nat → Nat → Bool} {j i : Nat} (h2 : ¬ l j i = true) : hb_nx p l j (some i) = some i := if_neg (fun z => h2 z.2)
theorem hb_nx_lt {p : Nat → Bool} {l : Nat → Nat → Bool} {j N : Nat} {b : Option Nat} (hj : j < N) (h : ∀ i, b = some i → i < N) : ∀ i, hb_nx p l j b = some i → i < N := by
  intro i hi
  by_cases hp : p j = true
  · cases b with
    | none => rw [hb_nx_n hp] at hi; cases hi; exact hj
    | some a =>
      by_cases hl : l j a = true
      · rw [hb_nx_t hp hl] at hi; cases hi; exact hj
      · rw [hb_nx_k hl] at hi; cases hi; exact h _ rfl
  · rw [hb_nx_f hp] at hi; exact h i hi
noncomputable def hb_b (P : Prop) : Bool := @decide P (Classical.propDecidable P)
theorem hb_bi (P : Prop) : hb_b P = true ↔ P := by
  unfold hb_b
  exact @decide_eq_true_iff P (Classical.propDecidable P)
theorem hb_bt {P : Prop} (h : P) : hb_b P = true := (hb_bi P).mpr h
theorem hb_bf {P : Prop} (h : ¬ P) : ¬ hb_b P = true := fun z => h ((hb_bi P).mp z)
theorem hb_bc {P Q : Prop} (h : P ↔ Q) : hb_b P = hb_b Q := by rw [propext h]
def hb_Pk (o k : Nat → Int32) (x y : Int32) (l : Nat) : Prop := x < o l ∨ (o l = x ∧ ¬ k l ≤ y)
noncomputable def hb_pn (o k b d : Nat → Int32) (x y t : Int32) : Nat → Bool := fun l => hb_b (hb_vis b d t l = true ∧ hb_Pk o k x y l)
noncomputable def hb_lX (o k : Nat → Int32) : Nat → Nat → Bool := fun j i => hb_b (¬ hb_Pk o k (o i) (k i) j)
noncomputable def hb_lY (o k : Nat → Int32) : Nat → Nat → Bool := fun j i => hb_b (o j < o i ∨ (o j = o i ∧ ¬ k i ≤ k j))
section
variable {ld ch av sn mu sy sg an so sk sb : Int32} {xo xk xb xd xv xc ss fp : Nat → Int32}
theorem hx_pk {j : Nat} (hj : j < 200) (x y : Int32) {post : Int32 → Prop} (h1 : hb_Pk xo xk x y j → post 1) (h0 : ¬ hb_Pk xo xk x y j → post 0) : wpX_isPastKey post (ld, ch, av, sn, mu, sy, sg, an, so, sk, sb, xo, xk, xb, xd, xv, xc, ss, fp) (nI j) x y := by
  unfold wpX_isPastKey
  dsimp only
  have hi : vp_in (nI j) 200 := vp_in_nI hj (by omega)
  rw [hb_cl (by omega)]
  refine ⟨hi, br_c (fun c => h1 (Or.inl c)) (fun c => ⟨hi, br_c (fun e => ⟨hi, br_c (fun g => h0 ?_) (fun g => h1 (Or.inr ⟨e, g⟩))⟩) (fun e => h0 ?_)⟩)⟩
  · exact fun z => z.elim c (fun w => w.2 g)
  · exact fun z => z.elim c (fun w => e w.1)
theorem hx_nextL (x y t : Int32) {e : Nat} (he : e ≤ 200) (post : Int32 → SX → Prop) : ∀ d j best, j + d = e → (∀ i, best = some i → i < 200) →
    (hb_bs (hb_pn xo xk xb xd x y t) (hb_lX xo xk) d j best = none → post 0 (ld, ch, av, sn, mu, sy, sg, an, so, sk, sb, xo, xk, xb, xd, xv, xc, ss, fp)) →
    (∀ i, i < 200 → hb_bs (hb_pn xo xk xb xd x y t) (hb_lX xo xk) d j best = some i → post 1 (ld, ch, av, sn, mu, sy, sg, an, so, sk, sb, xo, xk, xb, xd, xv, xc, ss, (upd (upd (upd (upd fp 0 (xo i)) 1 (xk i)) 2 (xv i)) 3 (xb i)))) →
    wX_next_27 post x y t (nI e) ld ch av sn mu sy sg an so sk sb xo xk xb xd xv xc ss fp (d + 1) (hb_o best) (nI j) := by
  intro d
  induction d with
  | zero =>
    intro j best hj hb h0 h1
    rw [hb_bs_0] at h0
    rw [hb_bs_0] at h1
    refine br_t (nI_le (by omega) (by omega)) ?_
    cases best with
    | none => exact br_t rfl (h0 rfl)
    | some i =>
      have hi := hb i rfl
      have hv : vp_in (nI i) 200 := vp_in_nI hi (by omega)
      refine br_f (hb_n1 (by omega)) ?_
      show vp_in (nI i) 200 ∧ _
      rw [show hb_o (some i) = nI i from rfl, hb_cl (by omega)]
      exact ⟨hv, nm_e ⟨hv, nm_e ⟨hv, nm_e ⟨hv, nm_e (h1 i hi rfl)⟩⟩⟩⟩
  | succ d ih =>
    intro j best hj hb h0 h1
    rw [hb_bs_1] at h0
    rw [hb_bs_1] at h1
    refine br_f (nI_ge (by omega) (by omega)) ?_
    have hn := ih (j + 1) _ (by omega) (hb_nx_lt (by omega) hb) h0 h1
    refine hx_vis (by omega) t ?_
    by_cases hv : hb_vis xb xd t j = true
    · rw [if_pos hv]
      refine br_f (by decide) ?_
      refine hx_pk (by omega) x y (fun hp => br_f (by decide) ?_) (fun hp => br_t rfl ?_)
      · have hpt : hb_pn xo xk xb xd x y t j = true := hb_bt ⟨hv, hp⟩
        cases best with
        | none =>
          rw [hb_nx_n hpt] at hn
          exact br_t rfl (nm_r (nI_1 j) hn)
        | some i =>
          have hi := hb i rfl
          have hvi : vp_in (nI i) 200 := vp_in_nI hi (by omega)
          refine br_f (hb_n1 (by omega)) ?_
          rw [show hb_o (some i) = nI i from rfl, hb_cl (j := i) (by omega)]
          refine ⟨hvi, hvi, ?_⟩
          refine hx_pk (by omega) _ _ (fun hq => br_f (by decide) ?_) (fun hq => br_t rfl ?_)
          · rw [hb_nx_k (hb_bf (fun z => z hq))] at hn
            exact nm_r (nI_1 j) hn
          · rw [hb_nx_t hpt (hb_bt hq)] at hn
            exact nm_r (nI_1 j) hn
      · rw [hb_nx_f (hb_bf (fun z => hp z.2))] at hn
        exact nm_r (nI_1 j) hn
    · rw [if_neg hv]
      rw [hb_nx_f (hb_bf (fun z => hv z.1))] at hn
      exact br_t rfl (nm_r (nI_1 j) hn)
theorem hx_next {V c : Nat} (hav : av = nI V) (hV : V < 2) (hc : xc V = nI c) (hl : c ≤ 100) (x y t : Int32) {post : Int32 → SX → Prop}
    (h0 : hb_bs (hb_pn xo xk xb xd x y t) (hb_lX xo xk) c (100 * V) none = none → post 0 (ld, ch, av, sn, mu, sy, sg, an, so, sk, sb, xo, xk, xb, xd, xv, xc, ss, fp))
    (h1 : ∀ i, i < 200 → hb_bs (hb_pn xo xk xb xd x y t) (hb_lX xo xk) c (100 * V) none = some i → post 1 (ld, ch, av, sn, mu, sy, sg, an, so, sk, sb, xo, xk, xb, xd, xv, xc, ss, (upd (upd (upd (upd fp 0 (xo i)) 1 (xk i)) 2 (xv i)) 3 (xb i)))) :
    wpX_next post (ld, ch, av, sn, mu, sy, sg, an, so, sk, sb, xo, xk, xb, xd, xv, xc, ss, fp) x y t := by
  unfold wpX_next
  dsimp only
  subst hav
  refine hx_first hV ?_
  refine hx_end hV hc ?_
  exact ⟨_, hx_nextL x y t (e := 100 * V + c) (by omega) post c (100 * V) none rfl (fun i hi => by cases hi) h0 h1⟩
noncomputable def hb_is (b d ss : Nat → Int32) (S j : Nat) : Prop := ∃ s, s < S ∧ hb_vis b d (ss s) j = true
theorem hx_isL {S j : Nat} (hS : S ≤ 4) (hj : j < 200) (hsn : sn = nI S) (post : Int32 → Prop) (h1 : hb_is xb xd ss S j → post 1) (h0 : ¬ hb_is xb xd ss S j → post 0) :
    ∀ d i, i + d = S → (∀ s, s < i → ¬ hb_vis xb xd (ss s) j = true) → wX_isInSnapshot_2 post (nI j) ld ch av sn mu sy sg an so sk sb xo xk xb xd xv xc ss fp (d + 1) (nI i) := by
  subst hsn
  intro d
  induction d with
  | zero =>
    intro i hi hn
    exact br_t (nI_le (by omega) (by omega)) (h0 (fun ⟨s, z1, z2⟩ => hn s (by omega) z2))
  | succ d ih =>
    intro i hi hn
    refine br_f (nI_ge (by omega) (by omega)) ⟨vp_in_nI (by omega) (by omega), ?_⟩
    rw [hb_cl (j := i) (by omega)]
    refine hx_vis hj _ ?_
    by_cases hv : hb_vis xb xd (ss i) j = true
    · rw [if_pos hv]
      exact br_f (by decide) (h1 ⟨i, by omega, hv⟩)
    · rw [if_neg hv]
      refine br_t rfl (nm_r (nI_1 i) (ih (i + 1) (by omega) (fun s hs => ?_)))
      by_cases e : s = i
      · rw [e]; exact hv
      · exact hn s (by omega)
theorem hx_is {S j : Nat} (hS : S ≤ 4) (hj : j < 200) (hsn : sn = nI S) {post : Int32 → Prop} (h1 : hb_is xb xd ss S j → post 1) (h0 : ¬ hb_is xb xd ss S j → post 0) : wpX_isInSnapshot post (ld, ch, av, sn, mu, sy, sg, an, so, sk, sb, xo, xk, xb, xd, xv, xc, ss, fp) (nI j) := by
  unfold wpX_isInSnapshot
  dsimp only
  exact ⟨S + 1, hx_isL hS hj hsn post h1 h0 S 0 (by omega) (fun s hs => by omega)⟩
end
section
variable {ld ch av sn mu sy sg an so sk sb : Int32} {yo yk yb yd yv yc ss fp : Nat → Int32}
theorem hy_nextJ {j : Nat} (hj : j < 300) (x y t : Int32) (post : Int32 → SY → Prop) (J : Int32 → Int32 → Prop) (best : Option Nat) (hb : ∀ i, best = some i → i < 300)
    (hg : hb_Pk yo yk x y j) (hn : J (hb_o (hb_nx (hb_pn yo yk yb yd x y t) (hb_lY yo yk) j best)) (nI (j + 1))) :
    wY_next_67 post J x y t (hb_o best) (nI j) ld ch av sn mu sy sg an so sk sb yo yk yb yd yv yc ss fp := by
  unfold wY_next_67 wY_next_72
  refine br_f (by decide) ?_
  refine hy_vis hj t ?_
  by_cases hv : hb_vis yb yd t j = true
  · rw [if_pos hv]
    refine br_f (by decide) ?_
    have hpt : hb_pn yo yk yb yd x y t j = true := hb_bt ⟨hv, hg⟩
    cases best with
    | none =>
      rw [hb_nx_n hpt] at hn
      exact br_t hb_mn (nm_r (nI_1 j) hn)
    | some i =>
      have hi := hb i rfl
      have hvi : vp_in (nI i) 300 := vp_in_nI hi (by omega)
      have hvj : vp_in (nI j) 300 := vp_in_nI hj (by omega)
      refine br_f (hb_nn (by omega)) ?_
      rw [show hb_o (some i) = nI i from rfl, hb_cl (j := i) (by omega), hb_cl (j := j) (by omega)]
      by_cases hq : yo j < yo i ∨ (yo j = yo i ∧ ¬ yk i ≤ yk j)
      · rw [hb_nx_t hpt (hb_bt hq)] at hn
        have hm := nm_r (P := fun x => J (nI j) x) (nI_1 j) hn
        exact ⟨hvj, hvi, br_c (fun _ => hm) (fun c1 => ⟨hvj, hvi, br_c (fun c2 => ⟨hvj, hvi, br_c (fun c3 => (hq.elim c1 (fun w => w.2 c3)).elim) (fun _ => hm)⟩) (fun c2 => (hq.elim c1 (fun w => c2 w.1)).elim)⟩)⟩
      · rw [hb_nx_k (hb_bf hq)] at hn
        have hm := nm_r (P := fun x => J (nI i) x) (nI_1 j) hn
        exact ⟨hvj, hvi, br_c (fun c1 => (hq (Or.inl c1)).elim) (fun c1 => ⟨hvj, hvi, br_c (fun c2 => ⟨hvj, hvi, br_c (fun c3 => hm) (fun c3 => (hq (Or.inr ⟨c2, c3⟩)).elim)⟩) (fun c2 => hm)⟩)⟩
  · rw [if_neg hv]
    rw [hb_nx_f (hb_bf (fun z => hv z.1))] at hn
    exact br_t rfl (nm_r (nI_1 j) hn)
theorem hy_nextK {j : Nat} (x y t : Int32) (post : Int32 → SY → Prop) (J : Int32 → Int32 → Prop) (best : Option Nat)
    (hg : ¬ hb_Pk yo yk x y j) (hn : J (hb_o (hb_nx (hb_pn yo yk yb yd x y t) (hb_lY yo yk) j best)) (nI (j + 1))) :
    wY_next_71 post J x y t (hb_o best) (nI j) ld ch av sn mu sy sg an so sk sb yo yk yb yd yv yc ss fp := by
  unfold wY_next_71 wY_next_72
  rw [hb_nx_f (hb_bf (fun z => hg z.2))] at hn
  exact br_t rfl (nm_r (nI_1 j) hn)
theorem hy_nextL {V c : Nat} (hav : av = nI V) (hV : V < 3) (hcc : yc V = nI c) (hl : c ≤ 100) (x y t : Int32) (post : Int32 → SY → Prop) : ∀ d j best, j + d = 100 * V + c → (∀ i, best = some i → i < 300) →
    (hb_bs (hb_pn yo yk yb yd x y t) (hb_lY yo yk) d j best = none → post 0 (ld, ch, av, sn, mu, sy, sg, an, so, sk, sb, yo, yk, yb, yd, yv, yc, ss, fp)) →
    (∀ i, i < 300 → hb_bs (hb_pn yo yk yb yd x y t) (hb_lY yo yk) d j best = some i → post 1 (ld, ch, av, sn, mu, sy, sg, an, so, sk, sb, yo, yk, yb, yd, yv, yc, ss, (upd (upd (upd (upd fp 0 (yo i)) 1 (yk i)) 2 (yv i)) 3 (yb i)))) →
    wY_next_12 post x y t ld ch av sn mu sy sg an so sk sb yo yk yb yd yv yc ss fp (d + 1) (hb_o best) (nI j) := by
  subst hav
  have hv : vp_in (nI V) 3 := vp_in_nI hV (by omega)
  have he : (100 : Int32) * nI V + yc (nI V).toNatClampNeg = nI (100 * V + c) := by
    rw [hy_100, hb_cl (by omega), hcc, nI_add]
  intro d
  induction d with
  | zero =>
    intro j best hj hb h0 h1
    rw [hb_bs_0] at h0
    rw [hb_bs_0] at h1
    refine ⟨hv, ?_⟩
    rw [he]
    refine br_t (nI_le (by omega) (by omega)) ?_
    cases best with
    | none => exact br_f hb_mp (h0 rfl)
    | some i =>
      have hi := hb i rfl
      have hv : vp_in (nI i) 300 := vp_in_nI hi (by omega)
      refine br_t (hb_np (by omega)) ?_
      show vp_in (nI i) 300 ∧ _
      rw [show hb_o (some i) = nI i from rfl, hb_cl (j := i) (by omega)]
      exact ⟨hv, nm_e ⟨hv, nm_e ⟨hv, nm_e ⟨hv, nm_e (h1 i hi rfl)⟩⟩⟩⟩
  | succ d ih =>
    intro j best hj hb h0 h1
    rw [hb_bs_1] at h0
    rw [hb_bs_1] at h1
    have hvj : vp_in (nI j) 300 := vp_in_nI (by omega) (by omega)
    have hn := ih (j + 1) _ (by omega) (hb_nx_lt (by omega) hb) h0 h1
    refine ⟨hv, ?_⟩
    rw [he]
    refine br_f (nI_ge (by omega) (by omega)) ⟨hvj, ?_⟩
    rw [hb_cl (j := j) (by omega)]
    refine br_c (fun c1 => hy_nextJ (by omega) x y t post _ best hb (Or.inl c1) hn) (fun c1 => ⟨hvj, br_c (fun c2 => ⟨hvj, br_c (fun c3 => hy_nextK x y t post _ best ?_ hn) (fun c3 => hy_nextJ (by omega) x y t post _ best hb (Or.inr ⟨c2, c3⟩) hn)⟩) (fun c2 => hy_nextK x y t post _ best ?_ hn)⟩)
    · exact fun z => z.elim c1 (fun w => w.2 c3)
    · exact fun z => z.elim c1 (fun w => c2 w.1)
theorem hy_next {V c : Nat} (hav : av = nI V) (hV : V < 3) (hc : yc V = nI c) (hl : c ≤ 100) (x y t : Int32) {post : Int32 → SY → Prop}
    (h0 : hb_bs (hb_pn yo yk yb yd x y t) (hb_lY yo yk) c (100 * V) none = none → post 0 (ld, ch, av, sn, mu, sy, sg, an, so, sk, sb, yo, yk, yb, yd, yv, yc, ss, fp))
    (h1 : ∀ i, i < 300 → hb_bs (hb_pn yo yk yb yd x y t) (hb_lY yo yk) c (100 * V) none = some i → post 1 (ld, ch, av, sn, mu, sy, sg, an, so, sk, sb, yo, yk, yb, yd, yv, yc, ss, (upd (upd (upd (upd fp 0 (yo i)) 1 (yk i)) 2 (yv i)) 3 (yb i)))) :
    wpY_next post (ld, ch, av, sn, mu, sy, sg, an, so, sk, sb, yo, yk, yb, yd, yv, yc, ss, fp) x y t := by
  unfold wpY_next
  dsimp only
  refine nm_r (e' := nI (100 * V)) (by rw [hav, hy_100]) ?_
  exact ⟨_, hy_nextL hav hV hc hl x y t post c (100 * V) none rfl (fun i hi => by cases hi) h0 h1⟩
theorem hy_isL {V S U j : Nat} (hav : av = nI V) (hV : V < 2) (hS : S ≤ 4) (hU : U < 1000) (hmu : mu = nI U) (hj : j < 300) (hsn : sn = nI S) (post : Int32 → Prop)
    (h1 : hb_is yb yd ss S j ∨ (V = 0 ∧ (U : Int) < (yd j).toInt) → post 1) (h0 : ¬ (hb_is yb yd ss S j ∨ (V = 0 ∧ (U : Int) < (yd j).toInt)) → post 0) :
    ∀ d i, i + d = S → (∀ s, s < i → ¬ hb_vis yb yd (ss s) j = true) → wY_needed_2 post (nI j) ld ch av sn mu sy sg an so sk sb yo yk yb yd yv yc ss fp (d + 1) (nI i) := by
  subst hsn hav hmu
  have hvj : vp_in (nI j) 300 := vp_in_nI (by omega) (by omega)
  intro d
  induction d with
  | zero =>
    intro i hi hn
    have hni : ¬ hb_is yb yd ss S j := fun ⟨s, z1, z2⟩ => hn s (by omega) z2
    refine br_t (nI_le (by omega) (by omega)) ?_
    rw [hb_cl (j := j) (by omega)]
    match V, hV, h1, h0 with
    | 0, _, h1, h0 =>
      refine br_t nI_0 ⟨hvj, br_c (fun z => h0 ?_) (fun z => h1 ?_)⟩
      · rw [hb_le, nI_toInt (by omega)] at z
        exact fun w => w.elim hni (fun w => by omega)
      · rw [hb_le, nI_toInt (by omega)] at z
        exact Or.inr ⟨rfl, by omega⟩
    | 1, _, h1, h0 =>
      exact br_f (by decide) (h0 (fun w => w.elim hni (fun w => absurd w.1 (by decide))))
  | succ d ih =>
    intro i hi hn
    refine br_f (nI_ge (by omega) (by omega)) ⟨vp_in_nI (by omega) (by omega), ?_⟩
    rw [hb_cl (j := i) (by omega)]
    refine hy_vis hj _ ?_
    by_cases hv : hb_vis yb yd (ss i) j = true
    · rw [if_pos hv]
      exact br_f (by decide) (h1 (Or.inl ⟨i, by omega, hv⟩))
    · rw [if_neg hv]
      refine br_t rfl (nm_r (nI_1 i) (ih (i + 1) (by omega) (fun s hs => ?_)))
      by_cases e : s = i
      · rw [e]; exact hv
      · exact hn s (by omega)
theorem hy_is {V S U j : Nat} (hav : av = nI V) (hV : V < 2) (hS : S ≤ 4) (hU : U < 1000) (hmu : mu = nI U) (hj : j < 300) (hsn : sn = nI S) {post : Int32 → Prop}
    (h1 : hb_is yb yd ss S j ∨ (V = 0 ∧ (U : Int) < (yd j).toInt) → post 1) (h0 : ¬ (hb_is yb yd ss S j ∨ (V = 0 ∧ (U : Int) < (yd j).toInt)) → post 0) : wpY_needed post (ld, ch, av, sn, mu, sy, sg, an, so, sk, sb, yo, yk, yb, yd, yv, yc, ss, fp) (nI j) := by
  unfold wpY_needed
  dsimp only
  exact ⟨S + 1, hy_isL hav hV hS hU hmu hj hsn post h1 h0 S 0 (by omega) (fun s hs => by omega)⟩
end
end
section
/-- a volume during a loop that takes away: both sides alike, and what is left of the beginning's -/
def hl_R (Q : Int32 → Int32 → Prop) (V n0 c : Nat) (xc0 yc0 o0 k0 b0 d0 : Nat → Int32) (xo xk xb xd xv xc yo yk yb yd yv yc : Nat → Int32) : Prop :=
  hb_Ag xo yo ∧ hb_Ag xk yk ∧ hb_Ag xb yb ∧ hb_Ag xd yd ∧ hb_Ag xv yv ∧ xc V = nI c ∧ yc V = nI c ∧ (∀ j, j ≠ V → xc j = xc0 j) ∧ (∀ j, j ≠ V → yc j = yc0 j) ∧ c ≤ 100 ∧ hp_Sq Q (100 * V) n0 c o0 k0 b0 d0 yo yk yb yd
theorem hl_step {Q : Int32 → Int32 → Prop} {V n0 c i : Nat} {xc0 yc0 o0 k0 b0 d0 xo xk xb xd xv xc yo yk yb yd yv yc : Nat → Int32} (hV : V < 2)
    (h : hl_R Q V n0 (c + 1) xc0 yc0 o0 k0 b0 d0 xo xk xb xd xv xc yo yk yb yd yv yc) (h1 : 100 * V ≤ i) (h2 : i < 100 * V + (c + 1)) (hQ : Q (yb i) (yd i)) :
    hl_R Q V n0 c xc0 yc0 o0 k0 b0 d0 (upd xo i (xo (100 * V + c))) (upd xk i (xk (100 * V + c))) (upd xb i (xb (100 * V + c))) (upd xd i (xd (100 * V + c))) (upd xv i (xv (100 * V + c))) (upd xc V (nI c))
      (upd yo i (yo (100 * V + c))) (upd yk i (yk (100 * V + c))) (upd yb i (yb (100 * V + c))) (upd yd i (yd (100 * V + c))) (upd yv i (yv (100 * V + c))) (upd yc V (nI c)) := by
  obtain ⟨a1, a2, a3, a4, a5, a6, a7, a8, a9, a10, a11⟩ := h
  have hl : 100 * V + c < 200 := by omega
  refine ⟨?_, ?_, ?_, ?_, ?_, pk_us, pk_us, fun j hj => by rw [pk_un hj]; exact a8 j hj, fun j hj => by rw [pk_un hj]; exact a9 j hj, by omega, hp_Sq_s a11 h1 h2 hQ⟩
  · rw [a1 _ hl]; exact hb_Ag_u a1 _ _
  · rw [a2 _ hl]; exact hb_Ag_u a2 _ _
  · rw [a3 _ hl]; exact hb_Ag_u a3 _ _
  · rw [a4 _ hl]; exact hb_Ag_u a4 _ _
  · rw [a5 _ hl]; exact hb_Ag_u a5 _ _
theorem hl_neg : nI 0 + (-1) < 0 := by decide
theorem hl_commit {N n0 : Nat} (hN : N < 1000) {ld ch av sn mu sy sg an so sk sb : Int32} {ss fp xc0 yc0 o0 k0 b0 d0 : Nat → Int32} :
    ∀ i c (xo xk xb xd xv xc yo yk yb yd yv yc : Nat → Int32), i ≤ c →
      hl_R (fun b d => b = nI N ∧ d = nI N) 0 n0 c xc0 yc0 o0 k0 b0 d0 xo xk xb xd xv xc yo yk yb yd yv yc →
      ∃ (c' : Nat) (xo' xk' xb' xd' xv' xc' yo' yk' yb' yd' yv' yc' : Nat → Int32),
        hl_R (fun b d => b = nI N ∧ d = nI N) 0 n0 c' xc0 yc0 o0 k0 b0 d0 xo' xk' xb' xd' xv' xc' yo' yk' yb' yd' yv' yc' ∧
        (∀ post : Int32 → SX → Prop, post (nI N) ((nI N), 0, av, sn, mu, sy, sg, an, so, sk, sb, xo', xk', xb', xd', xv', xc', ss, fp) → wX_commit_28 post (nI N) (i + 1) (nI i + (-1)) ld ch av sn mu sy sg an so sk sb xo xk xb xd xv xc ss fp) ∧
        (∀ post : Int32 → SY → Prop, post (nI N) ((nI N), 0, av, sn, mu, sy, sg, an, so, sk, sb, (hb_cp 0 200 c' yo'), (hb_cp 0 200 c' yk'), (hb_cp 0 200 c' yb'), (hb_cp 0 200 c' yd'), (hb_cp 0 200 c' yv'), (upd yc' 2 (nI c')), ss, fp) → wY_commit_31 post (i + 1) (nI i + (-1)) (nI N) ch av sn mu sy sg an so sk sb yo yk yb yd yv yc ss fp) := by
  intro i
  induction i with
  | zero =>
    intro c xo xk xb xd xv xc yo yk yb yd yv yc hi h
    refine ⟨c, xo, xk, xb, xd, xv, xc, yo, yk, yb, yd, yv, yc, h, fun post hp => br_t hl_neg hp, fun post hp => br_t hl_neg ?_⟩
    exact hy_copy (P := 0) (Q := 2) (c := c) (by omega) (by omega) (by omega) h.2.2.2.2.2.2.1 h.2.2.2.2.2.2.2.2.2.1 hp
  | succ i ih =>
    intro c xo xk xb xd xv xc yo yk yb yd yv yc hi h
    have hc := h.2.2.2.2.2.2.2.2.2.1
    have hvx : vp_in (nI i) 200 := vp_in_nI (by omega) (by omega)
    have hvy : vp_in (nI i) 300 := vp_in_nI (by omega) (by omega)
    have hb : xb i = yb i := h.2.2.1 i (by omega)
    have hd : xd i = yd i := h.2.2.2.1 i (by omega)
    by_cases hq : yb i = nI N ∧ yd i = nI N
    · obtain ⟨c, rfl⟩ : ∃ m, c = m + 1 := ⟨c - 1, by omega⟩
      have h' := hl_step (i := i) (by omega) h (by omega) (by omega) hq
      obtain ⟨c', xo', xk', xb', xd', xv', xc', yo', yk', yb', yd', yv', yc', g1, g2, g3⟩ := ih c _ _ _ _ _ _ _ _ _ _ _ _ (by omega) h'
      refine ⟨c', xo', xk', xb', xd', xv', xc', yo', yk', yb', yd', yv', yc', g1, fun post hp => ?_, fun post hp => ?_⟩
      · have g := g2 post hp
        rw [pk_m1]
        refine br_f (hb_nn (by omega)) ⟨hvx, ?_⟩
        rw [hb_cl (by omega), hb, hd]
        refine br_t hq.1 ⟨hvx, br_t hq.2 ?_⟩
        refine hx_take (V := 0) (c := c) (by omega) h.2.2.2.2.2.1 (by omega) (by omega) ?_
        exact nm_e g
      · have g := g3 post hp
        rw [pk_m1]
        refine br_f (hb_nn (by omega)) ⟨hvy, ?_⟩
        rw [hb_cl (by omega)]
        refine br_t hq.1 ⟨hvy, br_t hq.2 ?_⟩
        refine hy_take (V := 0) (c := c) (by omega) h.2.2.2.2.2.2.1 (by omega) (by omega) ?_
        exact nm_e g
    · obtain ⟨c', xo', xk', xb', xd', xv', xc', yo', yk', yb', yd', yv', yc', g1, g2, g3⟩ := ih c _ _ _ _ _ _ _ _ _ _ _ _ (by omega) h
      refine ⟨c', xo', xk', xb', xd', xv', xc', yo', yk', yb', yd', yv', yc', g1, fun post hp => ?_, fun post hp => ?_⟩
      · have g := g2 post hp
        rw [pk_m1]
        refine br_f (hb_nn (by omega)) ⟨hvx, ?_⟩
        rw [hb_cl (by omega), hb, hd]
        exact br_c (fun q1 => ⟨hvx, br_f (fun q2 => hq ⟨q1, q2⟩) (nm_e g)⟩) (fun q1 => nm_e g)
      · have g := g3 post hp
        rw [pk_m1]
        refine br_f (hb_nn (by omega)) ⟨hvy, ?_⟩
        rw [hb_cl (by omega)]
        exact br_c (fun q1 => ⟨hvy, br_f (fun q2 => hq ⟨q1, q2⟩) (nm_e g)⟩) (fun q1 => nm_e g)
def hb_un (i c : Nat) (w : Int32) (d : Nat → Int32) : Nat → Int32 := fun j => if i ≤ j ∧ j < c ∧ d j = w then 0 else d j
section
variable {ld ch av sn mu sy sg an so sk sb : Int32} {xo xk xb xd xv xc ss fp : Nat → Int32}
theorem hx_undo2 {c2 : Nat} {w : Int32} (hc : c2 ≤ 100) (hb : ∀ i, i < c2 → ¬ xb i = w) (post : Int32 → SX → Prop) (h : post ch (ld, 0, av, sn, mu, sy, sg, an, so, sk, sb, xo, xk, xb, (hb_un 0 c2 w xd), xv, xc, ss, fp)) :
    ∀ i, i ≤ c2 → wX_undoChanges_16 post w (i + 1) (nI i + (-1)) ld ch av sn mu sy sg an so sk sb xo xk xb (hb_un i c2 w xd) xv xc ss fp := by
  intro i
  induction i with
  | zero => intro hi; exact br_t hl_neg h
  | succ i ih =>
    intro hi
    have hv : vp_in (nI i) 200 := vp_in_nI (by omega) (by omega)
    have g := ih (by omega)
    rw [pk_m1]
    refine br_f (hb_nn (by omega)) ⟨hv, ?_⟩
    have e1 : hb_un (i + 1) c2 w xd i = xd i := if_neg (by omega)
    rw [hb_cl (by omega), e1]
    refine br_f (hb i (by omega)) ⟨hv, br_c (fun q => ⟨hv, nm_e ?_⟩) (fun q => ?_)⟩
    · have e2 : upd (hb_un (i + 1) c2 w xd) i 0 = hb_un i c2 w xd := by
        funext j
        unfold hb_un
        by_cases e : j = i
        · rw [e, pk_us, if_pos ⟨by omega, by omega, q⟩]
        · rw [pk_un e]
          by_cases z : i + 1 ≤ j ∧ j < c2 ∧ xd j = w
          · rw [if_pos z, if_pos ⟨by omega, z.2⟩]
          · rw [if_neg z, if_neg (fun y => z ⟨by omega, y.2⟩)]
      rw [e2]
      exact nm_e g
    · have e2 : hb_un (i + 1) c2 w xd = hb_un i c2 w xd := by
        funext j
        unfold hb_un
        by_cases e : j = i
        · rw [e, if_neg (by omega), if_neg (fun y => q y.2.2)]
        · by_cases z : i + 1 ≤ j ∧ j < c2 ∧ xd j = w
          · rw [if_pos z, if_pos ⟨by omega, z.2⟩]
          · rw [if_neg z, if_neg (fun y => z ⟨by omega, y.2⟩)]
      rw [e2]
      exact nm_e g
theorem hx_undo1 {c2 : Nat} {w a : Int32} (hb : ∀ i, i < c2 → ¬ xb i = w) (post : Int32 → SX → Prop)
    (h : ∀ xc', xc' 0 = nI c2 → xc' 1 = a → post ch (ld, 0, av, sn, mu, sy, sg, an, so, sk, sb, xo, xk, xb, (hb_un 0 c2 w xd), xv, xc', ss, fp)) :
    ∀ m, c2 + m ≤ 100 → (∀ i, c2 ≤ i → i < c2 + m → xb i = w) → ∀ xc : Nat → Int32, xc 0 = nI (c2 + m) → xc 1 = a → wX_undoChanges_16 post w (c2 + m + 1) (nI (c2 + m) + (-1)) ld ch av sn mu sy sg an so sk sb xo xk xb xd xv xc ss fp := by
  intro m
  induction m with
  | zero =>
    intro hc hw xc h0 h1
    have e : hb_un c2 c2 w xd = xd := by
      funext j
      unfold hb_un
      exact if_neg (by omega)
    have g := hx_undo2 (ld := ld) (ch := ch) (av := av) (sn := sn) (mu := mu) (sy := sy) (sg := sg) (an := an) (so := so) (sk := sk) (sb := sb) (xo := xo) (xk := xk) (xb := xb) (xd := xd) (xv := xv) (xc := xc) (ss := ss) (fp := fp) (c2 := c2) (w := w) (by omega) hb post (h xc h0 h1) c2 (Nat.le_refl c2)
    rw [e] at g
    exact g
  | succ m ih =>
    intro hc hw xc h0 h1
    have hv : vp_in (nI (c2 + m)) 200 := vp_in_nI (by omega) (by omega)
    have g := ih (by omega) (fun i q1 q2 => hw i q1 (by omega)) (upd xc 0 (nI (c2 + m))) pk_us (by rw [pk_un (by omega)]; exact h1)
    rw [show c2 + (m + 1) = c2 + m + 1 from rfl, pk_m1]
    refine br_f (hb_nn (by omega)) ⟨hv, ?_⟩
    rw [hb_cl (by omega)]
    refine br_t (hw _ (by omega) (by omega)) ?_
    refine hx_take (V := 0) (c := c2 + m) (by omega) h0 (by omega) (by omega) ?_
    rw [show 100 * 0 + (c2 + m) = c2 + m from by omega, hb_u_id, hb_u_id, hb_u_id, hb_u_id, hb_u_id]
    exact nm_e g
theorem hx_undo {N c0 c2 : Nat} {a : Int32} (hld : ld + 1 = nI N) (h2 : c2 ≤ c0) (h3 : c0 ≤ 100) (hb : ∀ i, i < c2 → ¬ xb i = nI N) (hw : ∀ i, c2 ≤ i → i < c0 → xb i = nI N) (h0 : xc 0 = nI c0) (h1 : xc 1 = a) {post : Int32 → SX → Prop}
    (h : ∀ xc', xc' 0 = nI c2 → xc' 1 = a → post ch (ld, 0, av, sn, mu, sy, sg, an, so, sk, sb, xo, xk, xb, (hb_un 0 c2 (nI N) xd), xv, xc', ss, fp)) : wpX_undoChanges post (ld, ch, av, sn, mu, sy, sg, an, so, sk, sb, xo, xk, xb, xd, xv, xc, ss, fp) := by
  unfold wpX_undoChanges
  dsimp only
  refine nm_r hld ?_
  refine nm_r (e' := nI c0 + (-1)) (by rw [h0, Int32.sub_eq_add_neg]) ?_
  obtain ⟨m, rfl⟩ : ∃ m, c0 = c2 + m := ⟨c0 - c2, by omega⟩
  exact ⟨c2 + m + 1, hx_undo1 hb post h m h3 hw xc h0 h1⟩
end
theorem hl_lt (n : Nat) (h : n < 1000) : nI n + (-1) < nI n := by
  cases n with
  | zero => decide
  | succ n => rw [pk_m1]; exact nI_lt (by omega) (by omega)
theorem hl_prune {D U L V S n0 : Nat} (hV : V < 2) (hS : S ≤ 4) (hD : D < 1000) (hUD : U ≤ D) (hL0 : V = 0 → L = U) (hL1 : V = 1 → L = D) {ch sy sg an so sk sb : Int32} {ss fp xc0 yc0 o0 k0 b0 d0 : Nat → Int32} :
    ∀ i c t (xo xk xb xd xv xc yo yk yb yd yv yc : Nat → Int32), i ≤ c →
      hl_R (fun _ d => d.toInt ≠ 0 ∧ d.toInt ≤ (L : Int)) V n0 c xc0 yc0 o0 k0 b0 d0 xo xk xb xd xv xc yo yk yb yd yv yc →
      ∃ (c' : Nat) (t' : Int32) (xo' xk' xb' xd' xv' xc' yo' yk' yb' yd' yv' yc' : Nat → Int32),
        hl_R (fun _ d => d.toInt ≠ 0 ∧ d.toInt ≤ (L : Int)) V n0 c' xc0 yc0 o0 k0 b0 d0 xo' xk' xb' xd' xv' xc' yo' yk' yb' yd' yv' yc' ∧
        (∀ post : Int32 → SX → Prop, post t' ((nI D), ch, (nI V), (nI S), (nI U), sy, sg, an, so, sk, sb, xo', xk', xb', xd', xv', xc', ss, fp) → wX_prune_55 post (nI L) (nI (100 * V)) (i + 1) t (nI (100 * V + i) + (-1)) (nI D) ch (nI V) (nI S) (nI U) sy sg an so sk sb xo xk xb xd xv xc ss fp) ∧
        (∀ post : Int32 → SY → Prop, ∀ e : Nat, e ≤ 100 → yc' 0 = nI e → post t' ((nI D), ch, (nI V), (nI S), (nI U), sy, sg, an, so, sk, sb, (hb_cp 0 200 e yo'), (hb_cp 0 200 e yk'), (hb_cp 0 200 e yb'), (hb_cp 0 200 e yd'), (hb_cp 0 200 e yv'), (upd yc' 2 (nI e)), ss, fp) → wY_prune_31 post (i + 1) t (nI (100 * V + i) + (-1)) (nI D) ch (nI V) (nI S) (nI U) sy sg an so sk sb yo yk yb yd yv yc ss fp) := by
  intro i
  induction i with
  | zero =>
    intro c t xo xk xb xd xv xc yo yk yb yd yv yc hi h
    refine ⟨c, t, xo, xk, xb, xd, xv, xc, yo, yk, yb, yd, yv, yc, h, fun post hp => br_t (hl_lt (100 * V) (by omega)) hp, fun post e he h0 hp => br_t (by rw [hy_100]; exact hl_lt (100 * V) (by omega)) ?_⟩
    exact hy_copy (P := 0) (Q := 2) (c := e) (by omega) (by omega) (by omega) h0 he hp
  | succ i ih =>
    intro c t xo xk xb xd xv xc yo yk yb yd yv yc hi h
    have hc := h.2.2.2.2.2.2.2.2.2.1
    have hvx : vp_in (nI (100 * V + i)) 200 := vp_in_nI (by omega) (by omega)
    have hvy : vp_in (nI (100 * V + i)) 300 := vp_in_nI (by omega) (by omega)
    have hb : xb (100 * V + i) = yb (100 * V + i) := h.2.2.1 _ (by omega)
    have hd : xd (100 * V + i) = yd (100 * V + i) := h.2.2.2.1 _ (by omega)
    have hlx : ¬ nI (100 * V + i) < nI (100 * V) := nI_nlt (by omega) (by omega)
    have hly : ¬ nI (100 * V + i) < 100 * nI V := by rw [hy_100]; exact hlx
    have his : hb_is xb xd ss S (100 * V + i) ↔ hb_is yb yd ss S (100 * V + i) := by
      unfold hb_is hb_vis
      rw [hb, hd]
    have hz : yd (100 * V + i) = 0 ↔ (yd (100 * V + i)).toInt = 0 := by rw [hb_eq, hb_0]
    have hDd : nI D < yd (100 * V + i) ↔ (D : Int) < (yd (100 * V + i)).toInt := by rw [hb_lt, nI_toInt (by omega)]
    have hLd : nI L < yd (100 * V + i) ↔ (L : Int) < (yd (100 * V + i)).toInt := by rw [hb_lt, nI_toInt (by omega)]
    by_cases hq : ((yd (100 * V + i)).toInt ≠ 0 ∧ (yd (100 * V + i)).toInt ≤ (L : Int)) ∧ ¬ hb_is yb yd ss S (100 * V + i)
    · obtain ⟨c, rfl⟩ : ∃ m, c = m + 1 := ⟨c - 1, by omega⟩
      have h' := hl_step (i := 100 * V + i) hV h (by omega) (by omega) hq.1
      obtain ⟨c', t', xo', xk', xb', xd', xv', xc', yo', yk', yb', yd', yv', yc', g1, g2, g3⟩ := ih c (t + 1) _ _ _ _ _ _ _ _ _ _ _ _ (by omega) h'
      refine ⟨c', t', xo', xk', xb', xd', xv', xc', yo', yk', yb', yd', yv', yc', g1, fun post hp => ?_, fun post e he h0 hp => ?_⟩
      · have g := g2 post hp
        rw [show 100 * V + (i + 1) = 100 * V + i + 1 from rfl, pk_m1]
        refine br_f hlx ⟨hvx, ?_⟩
        rw [hb_cl (by omega), hd]
        refine br_f (fun z => hq.1.1 (hz.mp z)) ⟨hvx, br_f (fun z => by have := hLd.mp z; omega) ?_⟩
        refine hx_is hS (by omega) rfl (fun z => (hq.2 (his.mp z)).elim) (fun _ => br_t rfl ?_)
        refine hx_take hV h.2.2.2.2.2.1 (by omega) (by omega) ?_
        exact nm_e (nm_e g)
      · have g := g3 post e he h0 hp
        rw [show 100 * V + (i + 1) = 100 * V + i + 1 from rfl, pk_m1]
        refine br_f hly ⟨hvy, ?_⟩
        rw [hb_cl (by omega)]
        refine br_f (fun z => hq.1.1 (hz.mp z)) ⟨hvy, br_f (fun z => by have := hDd.mp z; omega) ?_⟩
        refine hy_is rfl hV hS (by omega) rfl (by omega) rfl (fun z => (z.elim hq.2 (fun w => by have := hL0 w.1; omega)).elim) (fun _ => br_t rfl ?_)
        refine hy_take (by omega) h.2.2.2.2.2.2.1 (by omega) (by omega) ?_
        exact nm_e (nm_e g)
    · obtain ⟨c', t', xo', xk', xb', xd', xv', xc', yo', yk', yb', yd', yv', yc', g1, g2, g3⟩ := ih c t _ _ _ _ _ _ _ _ _ _ _ _ (by omega) h
      refine ⟨c', t', xo', xk', xb', xd', xv', xc', yo', yk', yb', yd', yv', yc', g1, fun post hp => ?_, fun post e he h0 hp => ?_⟩
      · have g := g2 post hp
        rw [show 100 * V + (i + 1) = 100 * V + i + 1 from rfl, pk_m1]
        refine br_f hlx ⟨hvx, ?_⟩
        rw [hb_cl (by omega), hd]
        refine br_c (fun _ => nm_e g) (fun z1 => ⟨hvx, br_c (fun _ => nm_e g) (fun z2 => ?_)⟩)
        refine hx_is hS (by omega) rfl (fun _ => br_f (by decide) (nm_e g)) (fun z3 => (hq ?_).elim)
        rw [hz] at z1
        rw [hLd] at z2
        exact ⟨⟨z1, by omega⟩, fun w => z3 (his.mpr w)⟩
      · have g := g3 post e he h0 hp
        rw [show 100 * V + (i + 1) = 100 * V + i + 1 from rfl, pk_m1]
        refine br_f hly ⟨hvy, ?_⟩
        rw [hb_cl (by omega)]
        refine br_c (fun _ => nm_e g) (fun z1 => ⟨hvy, br_c (fun _ => nm_e g) (fun z2 => ?_)⟩)
        refine hy_is rfl hV hS (by omega) rfl (by omega) rfl (fun _ => br_f (by decide) (nm_e g)) (fun z3 => (hq ?_).elim)
        rw [hz] at z1
        rw [hDd] at z2
        refine ⟨⟨z1, ?_⟩, fun w => z3 (Or.inl w)⟩
        by_cases e0 : V = 0
        · have := hL0 e0
          by_cases e1 : (U : Int) < (yd (100 * V + i)).toInt
          · exact (z3 (Or.inr ⟨e0, e1⟩)).elim
          · omega
        · have := hL1 (by omega)
          omega
end
section
noncomputable def hs_p (U G : Nat) (an : Int32) (o k b d : Nat → Int32) (x y z : Int32) : Nat → Bool := fun l => hb_b (hp_due U G b d l ∧ (an ≠ 0 → hp_past o k b x y z l))
noncomputable def hs_lX (o k b : Nat → Int32) : Nat → Nat → Bool := fun j i => hb_b (¬ hp_past o k b (o i) (k i) (b i) j)
noncomputable def hs_lY (o k b : Nat → Int32) : Nat → Nat → Bool := fun j i => hb_b (hp_past o k b (o j) (k j) (b j) i)
theorem hb_gt {x y : Int32} (h : x < y) : x.toInt < y.toInt := (hb_lt x y).mp h
theorem hb_ngt {x y : Int32} (h : ¬ x < y) : ¬ x.toInt < y.toInt := fun z => h ((hb_lt x y).mpr z)
theorem hb_ge {x y : Int32} (h : x ≤ y) : x.toInt ≤ y.toInt := (hb_le x y).mp h
theorem hb_nge {x y : Int32} (h : ¬ x ≤ y) : y.toInt < x.toInt := by
  have : ¬ x.toInt ≤ y.toInt := fun z => h ((hb_le x y).mpr z)
  omega
section
variable {ld ch av sn mu sy sg an so sk sb : Int32} {xo xk xb xd xv xc ss fp : Nat → Int32}
theorem hx_due {U G j : Nat} (hU : U < 1000) (hG : G < 1000) (hUG : U ≤ G) (hj : j < 200) {post : Int32 → Prop} (h1 : hp_due U G xb xd j → post 1) (h0 : ¬ hp_due U G xb xd j → post 0) : wpX_isDue post (ld, ch, av, sn, (nI U), sy, (nI G), an, so, sk, sb, xo, xk, xb, xd, xv, xc, ss, fp) (nI j) := by
  unfold wpX_isDue
  dsimp only
  have hi : vp_in (nI j) 200 := vp_in_nI hj (by omega)
  have eU : (nI U).toInt = (U : Int) := nI_toInt (by omega)
  have eG : (nI G).toInt = (G : Int) := nI_toInt (by omega)
  rw [hb_cl (by omega)]
  unfold hp_due at h1 h0
  refine ⟨hi, br_c (fun a => ⟨hi, br_c (fun b => h0 ?_) (fun b => ⟨hi, br_c (fun c => h0 ?_) (fun c => h1 ?_)⟩)⟩) (fun a => ⟨hi, br_c (fun b => h0 ?_) (fun b => h1 ?_)⟩)⟩
  · have a := hb_ge a; have b := hb_ge b; omega
  · have a := hb_ge a; have b := hb_nge b; have c := hb_gt c; omega
  · have a := hb_ge a; have b := hb_nge b; have c := hb_ngt c; omega
  · have a := hb_nge a; have b := hb_gt b; omega
  · have a := hb_nge a; have b := hb_ngt b; omega
theorem hx_past {j : Nat} (hj : j < 200) (x y z : Int32) {post : Int32 → Prop} (h1 : hp_past xo xk xb x y z j → post 1) (h0 : ¬ hp_past xo xk xb x y z j → post 0) : wpX_isPastRecord post (ld, ch, av, sn, mu, sy, sg, an, so, sk, sb, xo, xk, xb, xd, xv, xc, ss, fp) (nI j) x y z := by
  unfold wpX_isPastRecord
  dsimp only
  have hi : vp_in (nI j) 200 := vp_in_nI hj (by omega)
  rw [hb_cl (by omega)]
  refine hx_pk hj x y (fun p => br_f (by decide) (h1 ?_)) (fun p => br_t rfl ⟨hi, br_c (fun a => ⟨hi, br_c (fun b => ⟨hi, br_c (fun c => h0 ?_) (fun c => h1 ?_)⟩) (fun b => h0 ?_)⟩) (fun a => h0 ?_)⟩)
  · cases p with
    | inl p => exact Or.inl (hb_gt p)
    | inr p => exact Or.inr ⟨p.1, Or.inl (hb_nge p.2)⟩
  · intro w
    have c := hb_ge c
    cases w with
    | inl w => rw [a] at w; omega
    | inr w =>
      cases w.2 with
      | inl v => rw [b] at v; omega
      | inr v => omega
  · exact Or.inr ⟨a, Or.inr ⟨b, hb_nge c⟩⟩
  · intro w
    cases w with
    | inl w => exact p (Or.inl ((hb_lt _ _).mpr w))
    | inr w =>
      cases w.2 with
      | inl v => exact p (Or.inr ⟨w.1, fun q => by have := hb_ge q; omega⟩)
      | inr v => exact b v.1
  · intro w
    cases w with
    | inl w => exact p (Or.inl ((hb_lt _ _).mpr w))
    | inr w => exact a w.1
theorem hx_sendJ {e j : Nat} (hj : j < 200) (post : Int32 → Prop) (J : Int32 → Int32 → Prop) {p : Nat → Bool} (hp : p j = true) (best : Option Nat) (hb : ∀ i, best = some i → i < 200)
    (hn : J (hb_o (hb_nx p (hs_lX xo xk xb) j best)) (nI (j + 1))) : wX_slotToSend_50 post J (hb_o best) (nI e) (nI j) ld ch av sn mu sy sg an so sk sb xo xk xb xd xv xc ss fp := by
  unfold wX_slotToSend_50
  cases best with
  | none =>
    rw [hb_nx_n hp] at hn
    exact br_t rfl (nm_r (nI_1 j) hn)
  | some i =>
    have hi := hb i rfl
    have hvi : vp_in (nI i) 200 := vp_in_nI hi (by omega)
    refine br_f (hb_n1 (by omega)) ?_
    rw [show hb_o (some i) = nI i from rfl, hb_cl (j := i) (by omega)]
    refine ⟨hvi, hvi, hvi, ?_⟩
    refine hx_past hj _ _ _ (fun q => br_f (by decide) ?_) (fun q => br_t rfl ?_)
    · rw [hb_nx_k (hb_bf (fun z => z q))] at hn
      exact nm_r (nI_1 j) hn
    · rw [hb_nx_t hp (hb_bt q)] at hn
      exact nm_r (nI_1 j) hn
theorem hx_sendL {U G e : Nat} (hU : U < 1000) (hG : G < 1000) (hUG : U ≤ G) (he : e ≤ 100) (post : Int32 → Prop) : ∀ d j best, j + d = e → (∀ i, best = some i → i < 200) →
    post (hb_o (hb_bs (hs_p U G an xo xk xb xd so sk sb) (hs_lX xo xk xb) d j best)) → wX_slotToSend_10 post (nI e) ld ch av sn (nI U) sy (nI G) an so sk sb xo xk xb xd xv xc ss fp (d + 1) (hb_o best) (nI j) := by
  intro d
  induction d with
  | zero =>
    intro j best hj hb h
    rw [hb_bs_0] at h
    exact br_t (nI_le (by omega) (by omega)) h
  | succ d ih =>
    intro j best hj hb h
    rw [hb_bs_1] at h
    have hn := ih (j + 1) _ (by omega) (hb_nx_lt (by omega) hb) h
    refine br_f (nI_ge (by omega) (by omega)) ?_
    refine hx_due hU hG hUG (by omega) (fun hd => br_f (by decide) (br_c (fun ha => ?_) (fun ha => ?_))) (fun hd => br_t rfl ?_)
    · exact hx_sendJ (by omega) post _ (hb_bt ⟨hd, fun z => absurd ha z⟩) best hb hn
    · refine hx_past (by omega) _ _ _ (fun hp => br_f (by decide) ?_) (fun hp => br_t rfl ?_)
      · exact hx_sendJ (by omega) post _ (hb_bt ⟨hd, fun _ => hp⟩) best hb hn
      · rw [hb_nx_f (hb_bf (fun z => hp (z.2 ha)))] at hn
        exact nm_r (nI_1 j) hn
    · rw [hb_nx_f (hb_bf (fun z => hd z.1))] at hn
      exact nm_r (nI_1 j) hn
theorem hx_send {U G c : Nat} (hU : U < 1000) (hG : G < 1000) (hUG : U ≤ G) (hc : xc 0 = nI c) (hl : c ≤ 100) {post : Int32 → Prop} (h : post (hb_o (hb_bs (hs_p U G an xo xk xb xd so sk sb) (hs_lX xo xk xb) c 0 none))) : wpX_slotToSend post (ld, ch, av, sn, (nI U), sy, (nI G), an, so, sk, sb, xo, xk, xb, xd, xv, xc, ss, fp) := by
  unfold wpX_slotToSend
  dsimp only
  refine hx_end (V := 0) (by omega) hc ?_
  rw [show 100 * 0 + c = c from by omega]
  exact ⟨c + 1, hx_sendL hU hG hUG hl post c 0 none (by omega) (fun i hi => by cases hi) h⟩
end
section
variable {ld ch av sn mu sy sg an so sk sb : Int32} {yo yk yb yd yv yc ss fp : Nat → Int32}
theorem hy_sendP {j : Nat} (hj : j < 300) {post : Int32 → Prop} (h1 : (an ≠ 0 → hp_past yo yk yb so sk sb j) → post 1) (h0 : ¬ (an ≠ 0 → hp_past yo yk yb so sk sb j) → post 0) : wY_toSend_56 post (nI j) ld ch av sn mu sy sg an so sk sb yo yk yb yd yv yc ss fp := by
  unfold wY_toSend_56
  have hi : vp_in (nI j) 300 := vp_in_nI hj (by omega)
  rw [hb_cl (by omega)]
  refine br_c (fun a => h1 (fun z => absurd a z)) (fun a => ⟨hi, br_c (fun b => h1 (fun _ => Or.inl (hb_gt b))) (fun b => ⟨hi, br_c (fun c => ⟨hi, br_c (fun d => h1 (fun _ => Or.inr ⟨c, Or.inl (hb_gt d)⟩)) (fun d => ⟨hi, br_c (fun e => ⟨hi, br_c (fun f => h0 ?_) (fun f => h1 (fun _ => Or.inr ⟨c, Or.inr ⟨e, hb_nge f⟩⟩))⟩) (fun e => h0 ?_)⟩)⟩) (fun c => h0 ?_)⟩)⟩)
  · intro w
    have b := hb_ngt b
    have d := hb_ngt d
    have f := hb_ge f
    cases w a with
    | inl w => exact b w
    | inr w => cases w.2 with
      | inl v => exact d v
      | inr v => omega
  · intro w
    have b := hb_ngt b
    have d := hb_ngt d
    cases w a with
    | inl w => exact b w
    | inr w => cases w.2 with
      | inl v => exact d v
      | inr v => exact e v.1
  · intro w
    have b := hb_ngt b
    cases w a with
    | inl w => exact b w
    | inr w => exact c w.1
theorem hy_due {U G j : Nat} (hU : U < 1000) (hG : G < 1000) (hj : j < 300) {post : Int32 → Prop} (h1 : hp_due U G yb yd j ∧ (an ≠ 0 → hp_past yo yk yb so sk sb j) → post 1) (h0 : ¬ (hp_due U G yb yd j ∧ (an ≠ 0 → hp_past yo yk yb so sk sb j)) → post 0) : wpY_toSend post (ld, ch, av, sn, (nI U), sy, (nI G), an, so, sk, sb, yo, yk, yb, yd, yv, yc, ss, fp) (nI j) := by
  unfold wpY_toSend
  dsimp only
  have hi : vp_in (nI j) 300 := vp_in_nI hj (by omega)
  have eU : (nI U).toInt = (U : Int) := nI_toInt (by omega)
  have eG : (nI G).toInt = (G : Int) := nI_toInt (by omega)
  rw [hb_cl (by omega)]
  refine ⟨hi, br_c (fun a => ⟨hi, br_c (fun b => ?_) (fun b => ⟨hi, br_c (fun c => h0 ?_) (fun c => ⟨hi, br_c (fun d => ?_) (fun d => h0 ?_)⟩)⟩)⟩) (fun a => h0 ?_)⟩
  · have a := hb_ge a; have b := hb_gt b
    have hd : hp_due U G yb yd j := ⟨by omega, by omega⟩
    exact hy_sendP hj (fun z => h1 ⟨hd, z⟩) (fun z => h0 (fun w => z w.2))
  · intro w
    have a := hb_ge a; have b := hb_ngt b; have c := hb_ge c
    obtain ⟨⟨w1, w2⟩, _⟩ := w
    omega
  · have a := hb_ge a; have b := hb_ngt b; have c := hb_nge c; have d := hb_ge d
    have hd : hp_due U G yb yd j := ⟨by omega, by omega⟩
    exact hy_sendP hj (fun z => h1 ⟨hd, z⟩) (fun z => h0 (fun w => z w.2))
  · intro w
    have a := hb_ge a; have b := hb_ngt b; have c := hb_nge c; have d := hb_nge d
    obtain ⟨⟨w1, w2⟩, _⟩ := w
    omega
  · intro w
    have a := hb_nge a
    obtain ⟨⟨w1, w2⟩, _⟩ := w
    omega
theorem hy_sendL {U G e : Nat} (hU : U < 1000) (hG : G < 1000) (hc : yc 0 = nI e) (he : e ≤ 100) (post : Int32 → Prop) : ∀ d j best, j + d = e → (∀ i, best = some i → i < 300) →
    post (hb_o (hb_bs (hs_p U G an yo yk yb yd so sk sb) (hs_lY yo yk yb) d j best)) → wY_nextToSend_4 post ld ch av sn (nI U) sy (nI G) an so sk sb yo yk yb yd yv yc ss fp (d + 1) (hb_o best) (nI j) := by
  intro d
  induction d with
  | zero =>
    intro j best hj hb h
    rw [hb_bs_0] at h
    exact br_t (by rw [hc]; exact nI_le (by omega) (by omega)) h
  | succ d ih =>
    intro j best hj hb h
    rw [hb_bs_1] at h
    have hn := ih (j + 1) _ (by omega) (hb_nx_lt (by omega) hb) h
    have hvj : vp_in (nI j) 300 := vp_in_nI (by omega) (by omega)
    refine br_f (by rw [hc]; exact nI_ge (by omega) (by omega)) ?_
    refine hy_due hU hG (by omega) (fun hd => br_f (by decide) ?_) (fun hd => br_t rfl ?_)
    · have hp : hs_p U G an yo yk yb yd so sk sb j = true := hb_bt hd
      cases best with
      | none =>
        rw [hb_nx_n hp] at hn
        exact br_t hb_mn (nm_r (nI_1 j) hn)
      | some i =>
        have hi := hb i rfl
        have hvi : vp_in (nI i) 300 := vp_in_nI hi (by omega)
        refine br_f (hb_nn (by omega)) ?_
        rw [show hb_o (some i) = nI i from rfl, hb_cl (j := i) (by omega), hb_cl (j := j) (by omega)]
        by_cases hq : hp_past yo yk yb (yo j) (yk j) (yb j) i
        · rw [hb_nx_t hp (hb_bt hq)] at hn
          have hm := nm_r (P := fun x => wY_nextToSend_4 post ld ch av sn (nI U) sy (nI G) an so sk sb yo yk yb yd yv yc ss fp (d + 1) (nI j) x) (nI_1 j) hn
          refine ⟨hvj, hvi, br_c (fun _ => hm) (fun c1 => ⟨hvj, hvi, br_c (fun c2 => ⟨hvj, hvi, br_c (fun _ => hm) (fun c3 => ⟨hvj, hvi, br_c (fun c4 => ⟨hvj, hvi, br_c (fun c5 => (?_ : False).elim) (fun _ => hm)⟩) (fun c4 => (?_ : False).elim)⟩)⟩) (fun c2 => (?_ : False).elim)⟩)⟩
          · have c1 := hb_ngt c1; have c3 := hb_ngt c3; have c5 := hb_ge c5
            cases hq with
            | inl w => exact c1 w
            | inr w => cases w.2 with
              | inl v => exact c3 v
              | inr v => omega
          · have c1 := hb_ngt c1; have c3 := hb_ngt c3
            cases hq with
            | inl w => exact c1 w
            | inr w => cases w.2 with
              | inl v => exact c3 v
              | inr v => exact c4 v.1.symm
          · have c1 := hb_ngt c1
            cases hq with
            | inl w => exact c1 w
            | inr w => exact c2 w.1.symm
        · rw [hb_nx_k (hb_bf hq)] at hn
          have hm := nm_r (P := fun x => wY_nextToSend_4 post ld ch av sn (nI U) sy (nI G) an so sk sb yo yk yb yd yv yc ss fp (d + 1) (nI i) x) (nI_1 j) hn
          refine ⟨hvj, hvi, br_c (fun c1 => (hq (Or.inl (hb_gt c1))).elim) (fun c1 => ⟨hvj, hvi, br_c (fun c2 => ⟨hvj, hvi, br_c (fun c3 => (hq (Or.inr ⟨c2.symm, Or.inl (hb_gt c3)⟩)).elim) (fun c3 => ⟨hvj, hvi, br_c (fun c4 => ⟨hvj, hvi, br_c (fun c5 => hm) (fun c5 => (hq (Or.inr ⟨c2.symm, Or.inr ⟨c4.symm, hb_nge c5⟩⟩)).elim)⟩) (fun c4 => hm)⟩)⟩) (fun c2 => hm)⟩)⟩
    · rw [hb_nx_f (hb_bf hd)] at hn
      exact nm_r (nI_1 j) hn
theorem hy_send {U G c : Nat} (hU : U < 1000) (hG : G < 1000) (hc : yc 0 = nI c) (hl : c ≤ 100) {post : Int32 → Prop} (h : post (hb_o (hb_bs (hs_p U G an yo yk yb yd so sk sb) (hs_lY yo yk yb) c 0 none))) : wpY_nextToSend post (ld, ch, av, sn, (nI U), sy, (nI G), an, so, sk, sb, yo, yk, yb, yd, yv, yc, ss, fp) := by
  unfold wpY_nextToSend
  dsimp only
  exact ⟨c + 1, hy_sendL hU hG hc hl post c 0 none (by omega) (fun i hi => by cases hi) h⟩
end
theorem hs_Ag {U G c : Nat} {an so sk sb : Int32} {xo xk xb xd yo yk yb yd : Nat → Int32} (hc : c ≤ 100) (h1 : hb_Ag xo yo) (h2 : hb_Ag xk yk) (h3 : hb_Ag xb yb) (h4 : hb_Ag xd yd)
    (hD : hp_Dj 0 c yo yk yb yd) : hb_bs (hs_p U G an xo xk xb xd so sk sb) (hs_lX xo xk xb) c 0 none = hb_bs (hs_p U G an yo yk yb yd so sk sb) (hs_lY yo yk yb) c 0 none := by
  refine hb_bs_congr (s := 0) (e := c) ?_ ?_ c 0 none (by omega) (by omega) (fun i hi => by cases hi)
  · intro l _ hl
    unfold hs_p hp_due hp_past
    rw [h1 l (by omega), h2 l (by omega), h3 l (by omega), h4 l (by omega)]
  · intro i j _ hij hj _ _
    unfold hs_lX hs_lY
    refine hb_bc ?_
    unfold hp_past
    rw [h1 i (by omega), h2 i (by omega), h3 i (by omega), h1 j (by omega), h2 j (by omega), h3 j (by omega)]
    have hd := hD i j (by omega) (by omega) (by omega) (by omega) (by omega)
    rw [hb_eq, hb_eq] at hd
    rw [hb_eq (yo j), hb_eq (yo i), hb_eq (yk j), hb_eq (yk i)]
    omega
theorem hs_spec {U G c : Nat} {an so sk sb : Int32} {yo yk yb yd : Nat → Int32} (hD : hp_Dj 0 c yo yk yb yd) :
    (∀ s, hb_bs (hs_p U G an yo yk yb yd so sk sb) (hs_lY yo yk yb) c 0 none = some s → s < c ∧ hp_due U G yb yd s ∧ ∀ i, i < c → hp_due U G yb yd i → (an ≠ 0 → hp_past yo yk yb so sk sb i) → i = s ∨ hp_past yo yk yb (yo s) (yk s) (yb s) i) ∧
    (hb_bs (hs_p U G an yo yk yb yd so sk sb) (hs_lY yo yk yb) c 0 none = none → ∀ i, i < c → hp_due U G yb yd i → (an ≠ 0 → hp_past yo yk yb so sk sb i) → False) := by
  have H := hb_bs_spec (p := hs_p U G an yo yk yb yd so sk sb) (lt := hs_lY yo yk yb) (s := 0) (e := c) ?_ ?_ c 0 none (by omega) (by omega) (fun i hi => by cases hi) (fun _ l _ h => by omega)
  · constructor
    · intro s hs
      obtain ⟨q1, q2, q3, q4⟩ := H.1 s hs
      refine ⟨q2, ((hb_bi _).mp q3).1, fun i hi hd hp => ?_⟩
      cases q4 i (by omega) hi (hb_bt ⟨hd, hp⟩) with
      | inl z => exact Or.inl z
      | inr z => exact Or.inr ((hb_bi _).mp z)
    · intro hn i hi hd hp
      exact H.2 hn i (by omega) hi (hb_bt ⟨hd, hp⟩)
  · intro a b c h1 h2
    have h1 := (hb_bi _).mp h1
    have h2 := (hb_bi _).mp h2
    refine hb_bt ?_
    unfold hp_past at h1 h2
    unfold hp_past
    rw [hb_eq, hb_eq] at h1
    rw [hb_eq, hb_eq] at h2
    rw [hb_eq, hb_eq]
    omega
  · intro i j h1 h2 h3 h4 h5 _ _
    have hd := hD i j (by omega) (by omega) (by omega) (by omega) h5
    rw [hb_eq, hb_eq] at hd
    unfold hs_lY
    rw [hb_bi, hb_bi]
    unfold hp_past
    rw [hb_eq (yo j), hb_eq (yo i), hb_eq (yk j), hb_eq (yk i)]
    omega
end
section
def hr_S (k D C V SN U G c0 c1 c2 : Nat) (sy an so sk sb : Int32) (xo xk xb xd xv xc yo yk yb yd yv yc : Nat → Int32) : Prop :=
  4 * D ≤ k ∧ V < 2 ∧ SN ≤ 4 ∧ hb_Ag xo yo ∧ hb_Ag xk yk ∧ hb_Ag xb yb ∧ hb_Ag xd yd ∧ hb_Ag xv yv ∧
  xc 0 = nI c0 ∧ xc 1 = nI c1 ∧ yc 0 = nI c0 ∧ yc 1 = nI c1 ∧ yc 2 = nI c2 ∧
  hp_Inv D C U G c0 c1 c2 (sy ≠ 0) (sy ≠ 0 ∧ an ≠ 0) yo yk yb yd yv so sk sb
/-- the relation: all single fields alike; the arrays alike below 200; the reference's third volume is what abort brings back -/
def i_Rel (k : Nat) (u : SX) (v : SY) : Prop :=
  ∃ (D C V SN U G c0 c1 c2 : Nat) (sy an so sk sb : Int32) (xo xk xb xd xv xc yo yk yb yd yv yc ss fp : Nat → Int32),
    u = ((nI D), (nI C), (nI V), (nI SN), (nI U), sy, (nI G), an, so, sk, sb, xo, xk, xb, xd, xv, xc, ss, fp) ∧ v = ((nI D), (nI C), (nI V), (nI SN), (nI U), sy, (nI G), an, so, sk, sb, yo, yk, yb, yd, yv, yc, ss, fp) ∧
    hr_S k D C V SN U G c0 c1 c2 sy an so sk sb xo xk xb xd xv xc yo yk yb yd yv yc
theorem hp_keep {D C U G U' G' c0 c1 c1' c2 : Nat} {S S1 S' S1' : Prop} {o k b d v o' k' b' d' v' : Nat → Int32} {x y z x' y' z' : Int32}
    (h : hp_Inv D C U G c0 c1 c2 S S1 o k b d v x y z) (hJ : hp_J D (D + 1) U' G' c0 c1' S' S1' o' k' b' d' x' y' z')
    (jo : ∀ i, i < 100 ∨ 200 ≤ i → o' i = o i) (jk : ∀ i, i < 100 ∨ 200 ≤ i → k' i = k i) (jb : ∀ i, i < 100 ∨ 200 ≤ i → b' i = b i) (jd : ∀ i, i < 100 ∨ 200 ≤ i → d' i = d i) (jv : ∀ i, i < 100 ∨ 200 ≤ i → v' i = v i) :
    hp_Inv D C U' G' c0 c1' c2 S' S1' o' k' b' d' v' x' y' z' := by
  obtain ⟨b1, bJ, ⟨s1, s2, s3⟩, b4⟩ := h
  have hc := hJ.1
  refine ⟨b1, hJ, ⟨s1, ?_, ?_⟩, fun z => ⟨(b4 z).1, ?_⟩⟩
  · intro i hi
    rw [jo i (by omega), jk i (by omega), jb i (by omega), jd i (by omega), jv i (by omega), jo (200 + i) (by omega), jk (200 + i) (by omega), jb (200 + i) (by omega), jd (200 + i) (by omega), jv (200 + i) (by omega)]
    exact s2 i hi
  · intro i h1 h2
    rw [jb i (by omega)]; exact s3 i h1 h2
  · intro i hi
    rw [jd i (by omega)]; exact (b4 z).2 i hi
def hs_w (g x : Int32) : Int32 := if x ≤ g then x else 0
section
variable {ld ch av sn mu sy sg an so sk sb : Int32} {xo xk xb xd xv xc ss fp : Nat → Int32}
theorem hx_98 {s : Nat} (hs : s < 100) {post : Int32 → SX → Prop} (h : post 1 (ld, ch, av, sn, mu, sy, sg, 1, (xo s), (xk s), (xb s), xo, xk, xb, xd, xv, xc, ss, fp)) : wX_sendRecord_98 post (nI s) ld ch av sn mu sy sg an so sk sb xo xk xb xd xv xc ss fp := by
  unfold wX_sendRecord_98
  have hv : vp_in (nI s) 200 := vp_in_nI (by omega) (by omega)
  rw [hb_cl (by omega)]
  exact ⟨hv, nm_e ⟨hv, nm_e ⟨hv, nm_e h⟩⟩⟩
theorem hx_23 {s : Nat} (hs : s < 100) {post : Int32 → SX → Prop} (h : wX_sendRecord_23 post (nI s) (hs_w sg (xd s)) ld ch av sn mu sy sg an so sk sb xo xk xb xd xv xc ss fp) : wpX_sendRecord post (ld, ch, av, sn, mu, sy, sg, an, so, sk, sb, xo, xk, xb, xd, xv, xc, ss, fp) (nI s) := by
  unfold wpX_sendRecord
  dsimp only
  have hv : vp_in (nI s) 200 := vp_in_nI (by omega) (by omega)
  rw [hb_cl (by omega)]
  unfold hs_w at h
  refine ⟨hv, br_c (fun z => ⟨hv, ?_⟩) (fun z => ?_)⟩
  · rw [if_pos z] at h; exact h
  · rw [if_neg z] at h; exact h
theorem hx_sendT {s c t : Nat} (hs : s < 100) (hc : xc 1 = nI c) (hl : c ≤ 100) (ht : hb_sc (hb_pb xo xk xb (xo s) (xk s) (xb s)) c 100 = some t) {post : Int32 → SX → Prop}
    (h : post 1 (ld, ch, av, sn, mu, sy, sg, 1, (xo s), (xk s), (xb s), xo, xk, xb, (upd xd t (hs_w sg (xd s))), xv, xc, ss, fp)) : wpX_sendRecord post (ld, ch, av, sn, mu, sy, sg, an, so, sk, sb, xo, xk, xb, xd, xv, xc, ss, fp) (nI s) := by
  refine hx_23 hs ?_
  unfold wX_sendRecord_23
  have hv : vp_in (nI s) 200 := vp_in_nI (by omega) (by omega)
  have hq := hb_sc_some ht
  rw [hb_cl (j := s) (by omega)]
  refine ⟨hv, hv, hv, ?_⟩
  refine hx_born (V := 1) (by omega) hc hl _ _ _ ?_
  rw [show 100 * 1 = 100 from rfl, ht]
  refine br_f (hb_n1 (by omega)) ⟨vp_in_nI (by omega) (by omega), ?_⟩
  rw [show hb_o (some t) = nI t from rfl, hb_cl (j := t) (by omega)]
  refine nm_e ?_
  exact hx_98 hs h
theorem hx_sendA {s c : Nat} (hs : s < 100) (hc : xc 1 = nI c) (hl : c < 100) (ht : hb_sc (hb_pb xo xk xb (xo s) (xk s) (xb s)) c 100 = none) {post : Int32 → SX → Prop}
    (h : post 1 (ld, ch, av, sn, mu, sy, sg, 1, (xo s), (xk s), (xb s), (upd xo (100 + c) (xo s)), (upd xk (100 + c) (xk s)), (upd xb (100 + c) (xb s)), (upd xd (100 + c) (hs_w sg (xd s))), (upd xv (100 + c) (xv s)), (upd xc 1 (nI (c + 1))), ss, fp)) : wpX_sendRecord post (ld, ch, av, sn, mu, sy, sg, an, so, sk, sb, xo, xk, xb, xd, xv, xc, ss, fp) (nI s) := by
  refine hx_23 hs ?_
  unfold wX_sendRecord_23
  have hv : vp_in (nI s) 200 := vp_in_nI (by omega) (by omega)
  rw [hb_cl (j := s) (by omega)]
  refine ⟨hv, hv, hv, ?_⟩
  refine hx_born (V := 1) (by omega) hc (by omega) _ _ _ ?_
  rw [show 100 * 1 = 100 from rfl, ht]
  refine br_t rfl ⟨hv, hv, hv, hv, ?_⟩
  refine hx_add (V := 1) (by omega) hc hl _ _ _ _ _ ?_
  refine br_f (by decide) ?_
  refine hx_98 hs ?_
  rw [pk_un (by omega), pk_un (by omega), pk_un (by omega)]
  exact h
theorem hx_sendF {s c : Nat} (hs : s < 100) (hc : xc 1 = nI c) (hl : c = 100) (ht : hb_sc (hb_pb xo xk xb (xo s) (xk s) (xb s)) c 100 = none) {post : Int32 → SX → Prop}
    (h : post 0 (ld, ch, av, sn, mu, sy, sg, an, so, sk, sb, xo, xk, xb, xd, xv, xc, ss, fp)) : wpX_sendRecord post (ld, ch, av, sn, mu, sy, sg, an, so, sk, sb, xo, xk, xb, xd, xv, xc, ss, fp) (nI s) := by
  refine hx_23 hs ?_
  unfold wX_sendRecord_23
  have hv : vp_in (nI s) 200 := vp_in_nI (by omega) (by omega)
  rw [hb_cl (j := s) (by omega)]
  refine ⟨hv, hv, hv, ?_⟩
  refine hx_born (V := 1) (by omega) hc (by omega) _ _ _ ?_
  rw [show 100 * 1 = 100 from rfl, ht]
  refine br_t rfl ⟨hv, hv, hv, hv, ?_⟩
  refine hx_addF (V := 1) (by omega) hc hl _ _ _ _ _ ?_
  exact br_t rfl h
end
section
variable {ld ch av sn mu sy sg an so sk sb : Int32} {yo yk yb yd yv yc ss fp : Nat → Int32}
theorem hy_188 {U G c0 s : Nat} (hU : U < 1000) (hG : G < 1000) (hs : s < 100) (hc : yc 0 = nI c0) (hl : c0 ≤ 100) (post : Int32 → SY → Prop) (J : Int32 → Int32 → Int32 → Int32 → Int32 → Int32 → Int32 → Int32 → Int32 → Int32 → Int32 → Int32 → Int32 → (Nat → Int32) → (Nat → Int32) → (Nat → Int32) → (Nat → Int32) → (Nat → Int32) → (Nat → Int32) → (Nat → Int32) → (Nat → Int32) → Prop) (x1 : Int32) (n : Nat)
    (h : J (nI (n + 1)) (hb_o (hb_bs (hs_p U G 1 yo yk yb yd (yo s) (yk s) (yb s)) (hs_lY yo yk yb) c0 0 none)) ld ch av sn (nI U) sy (nI G) 1 (yo s) (yk s) (yb s) yo yk yb yd yv yc ss fp) :
    wY_sync_188 post J x1 (nI n) (nI s) ld ch av sn (nI U) sy (nI G) an so sk sb yo yk yb yd yv yc ss fp := by
  unfold wY_sync_188
  have hv : vp_in (nI s) 300 := vp_in_nI (by omega) (by omega)
  rw [hb_cl (by omega)]
  refine ⟨hv, nm_e ⟨hv, nm_e ⟨hv, nm_e (nm_r (nI_1 n) ?_)⟩⟩⟩
  exact hy_send hU hG hc hl h
theorem hy_115 {s : Nat} (hs : s < 100) (post : Int32 → SY → Prop) (J : Int32 → Int32 → Int32 → Int32 → Int32 → Int32 → Int32 → Int32 → Int32 → Int32 → Int32 → Int32 → Int32 → (Nat → Int32) → (Nat → Int32) → (Nat → Int32) → (Nat → Int32) → (Nat → Int32) → (Nat → Int32) → (Nat → Int32) → (Nat → Int32) → Prop) (x1 x2 x4 : Int32)
    (h : wY_sync_138 post J x1 x2 (nI s) x4 (hs_w sg (yd s)) ld ch av sn mu sy sg an so sk sb yo yk yb yd yv yc ss fp) : wY_sync_115 post J x1 x2 (nI s) x4 ld ch av sn mu sy sg an so sk sb yo yk yb yd yv yc ss fp := by
  unfold wY_sync_115
  have hv : vp_in (nI s) 300 := vp_in_nI (by omega) (by omega)
  rw [hb_cl (by omega)]
  unfold hs_w at h
  refine ⟨hv, br_c (fun z => ⟨hv, ?_⟩) (fun z => ?_)⟩
  · rw [if_pos z] at h; exact h
  · rw [if_neg z] at h; exact h
end
end
section
theorem hr_mk {k D C V SN U G c0 c1 c2 : Nat} {sy an so sk sb : Int32} {xo xk xb xd xv xc yo yk yb yd yv yc ss fp : Nat → Int32}
    (h : hr_S k D C V SN U G c0 c1 c2 sy an so sk sb xo xk xb xd xv xc yo yk yb yd yv yc) :
    i_Rel k ((nI D), (nI C), (nI V), (nI SN), (nI U), sy, (nI G), an, so, sk, sb, xo, xk, xb, xd, xv, xc, ss, fp) ((nI D), (nI C), (nI V), (nI SN), (nI U), sy, (nI G), an, so, sk, sb, yo, yk, yb, yd, yv, yc, ss, fp) :=
  ⟨D, C, V, SN, U, G, c0, c1, c2, sy, an, so, sk, sb, xo, xk, xb, xd, xv, xc, yo, yk, yb, yd, yv, yc, ss, fp, rfl, rfl, h⟩
theorem hs_w1 {G : Nat} (hG : G < 1000) (x : Int32) : (x.toInt ≤ (G : Int) → (hs_w (nI G) x).toInt = x.toInt) ∧ (¬ x.toInt ≤ (G : Int) → (hs_w (nI G) x).toInt = 0) := by
  have e : (nI G).toInt = (G : Int) := nI_toInt (by omega)
  unfold hs_w
  by_cases h : x ≤ nI G
  · rw [if_pos h]
    have := hb_ge h
    exact ⟨fun _ => rfl, fun z => by omega⟩
  · rw [if_neg h]
    have := hb_nge h
    exact ⟨fun z => by omega, fun _ => hb_0⟩
theorem hs_pbc {c s V : Nat} (hV : V < 2) {xo xk xb yo yk yb : Nat → Int32} (hc : c ≤ 100) (h1 : hb_Ag xo yo) (h2 : hb_Ag xk yk) (h3 : hb_Ag xb yb) (x y z : Int32) :
    hb_sc (hb_pb xo xk xb x y z) c (100 * V) = hb_sc (hb_pb yo yk yb x y z) c (100 * V) := by
  refine hb_sc_congr (fun l g1 g2 => ?_)
  unfold hb_pb
  rw [h1 l (by omega), h2 l (by omega), h3 l (by omega)]
theorem hl_sync {k n D C V SN U G c0 c2 : Nat} {sy : Int32} {ss fp : Nat → Int32} (hn : n ≤ 50) (hD : D < 1000) (hsy : sy ≠ 0) :
    ∀ d sent c1 (an so sk sb : Int32) (xo xk xb xd xv xc yo yk yb yd yv yc : Nat → Int32), sent + d = n →
      hr_S k D C V SN U G c0 c1 c2 sy an so sk sb xo xk xb xd xv xc yo yk yb yd yv yc →
      ∃ (r : Int32) (u' : SX) (v' : SY), i_Rel k u' v' ∧
        (∀ post : Int32 → SX → Prop, post r u' → wX_sync_58 post (nI n) (d + 1) (nI sent) (hb_o (hb_bs (hs_p U G an yo yk yb yd so sk sb) (hs_lY yo yk yb) c0 0 none)) (nI D) (nI C) (nI V) (nI SN) (nI U) sy (nI G) an so sk sb xo xk xb xd xv xc ss fp) ∧
        (∀ post : Int32 → SY → Prop, post r v' → wY_sync_63 post (nI n) (d + 1) (nI sent) (hb_o (hb_bs (hs_p U G an yo yk yb yd so sk sb) (hs_lY yo yk yb) c0 0 none)) (nI D) (nI C) (nI V) (nI SN) (nI U) sy (nI G) an so sk sb yo yk yb yd yv yc ss fp) := by
  intro d
  induction d with
  | zero =>
    intro sent c1 an so sk sb xo xk xb xd xv xc yo yk yb yd yv yc hd h
    have hle : nI n ≤ nI sent := nI_le (by omega) (by omega)
    obtain ⟨w1, w2, w3, w4, w5, w6, w7, w8, w9, w10, w11, w12, w13, hI⟩ := h
    have hJ := hI.2.1
    have hDj := hJ.2.2.2.2.2.2.2.2.1
    cases hr : hb_bs (hs_p U G an yo yk yb yd so sk sb) (hs_lY yo yk yb) c0 0 none with
    | none =>
      refine ⟨nI sent, _, _, hr_mk (D := D) (C := C) (V := V) (SN := SN) (U := G) (G := G) (c0 := c0) (c1 := c1) (c2 := c2) (sy := 0) (an := an) (so := so) (sk := sk) (sb := sb) (ss := ss) (fp := fp)
        ⟨w1, w2, w3, w4, w5, w6, w7, w8, w9, w10, w11, w12, w13, hp_keep hI (hp_stop hJ hsy (fun z => z rfl) (fun z => z.1 rfl) (fun i hi hd hp => (hs_spec hDj).2 hr i hi hd (fun ha => hp ⟨hsy, ha⟩))) (fun _ _ => rfl) (fun _ _ => rfl) (fun _ _ => rfl) (fun _ _ => rfl) (fun _ _ => rfl)⟩,
        fun post hp => br_t hle (br_t rfl hp), fun post hp => br_t hb_mn (br_f hb_mp hp)⟩
    | some s =>
      have hs := ((hs_spec hDj).1 s hr).1
      have hc0 := hJ.1
      exact ⟨nI sent, _, _, hr_mk ⟨w1, w2, w3, w4, w5, w6, w7, w8, w9, w10, w11, w12, w13, hI⟩,
        fun post hp => br_t hle (br_f (hb_n1 (by omega)) hp), fun post hp => br_f (hb_nn (by omega)) (br_t hle (br_t (hb_np (by omega)) hp))⟩
  | succ d ih =>
    intro sent c1 an so sk sb xo xk xb xd xv xc yo yk yb yd yv yc hd h
    have hle : ¬ nI n ≤ nI sent := nI_ge (by omega) (by omega)
    have h' := h
    obtain ⟨w1, w2, w3, w4, w5, w6, w7, w8, w9, w10, w11, w12, w13, hI⟩ := h
    have hJ := hI.2.1
    have hDj := hJ.2.2.2.2.2.2.2.2.1
    have hc0 := hJ.1
    have hc1 := hJ.2.1
    have hUD := hJ.2.2.1
    have hGD := hJ.2.2.2.1
    have hUG := (hJ.2.2.2.2.2.1 hsy).1
    cases hr : hb_bs (hs_p U G an yo yk yb yd so sk sb) (hs_lY yo yk yb) c0 0 none with
    | none =>
      refine ⟨nI sent, _, _, hr_mk (D := D) (C := C) (V := V) (SN := SN) (U := G) (G := G) (c0 := c0) (c1 := c1) (c2 := c2) (sy := 0) (an := an) (so := so) (sk := sk) (sb := sb) (ss := ss) (fp := fp)
        ⟨w1, w2, w3, w4, w5, w6, w7, w8, w9, w10, w11, w12, w13, hp_keep hI (hp_stop hJ hsy (fun z => z rfl) (fun z => z.1 rfl) (fun i hi hd hp => (hs_spec hDj).2 hr i hi hd (fun ha => hp ⟨hsy, ha⟩))) (fun _ _ => rfl) (fun _ _ => rfl) (fun _ _ => rfl) (fun _ _ => rfl) (fun _ _ => rfl)⟩,
        fun post hp => br_f hle (br_t rfl (br_t rfl hp)), fun post hp => br_t hb_mn (br_f hb_mp hp)⟩
    | some s =>
      obtain ⟨hs, hdue, hmin⟩ := (hs_spec hDj).1 s hr
      have hmin' : ∀ i, i < c0 → hp_due U G yb yd i → (sy ≠ 0 ∧ an ≠ 0 → hp_past yo yk yb so sk sb i) → i = s ∨ hp_past yo yk yb (yo s) (yk s) (yb s) i :=
        fun i hi hd hp => hmin i hi hd (fun ha => hp ⟨hsy, ha⟩)
      have hvy : vp_in (nI s) 300 := vp_in_nI (by omega) (by omega)
      have eo := w4 s (by omega)
      have ek := w5 s (by omega)
      have eb := w6 s (by omega)
      have ed := w7 s (by omega)
      have ev := w8 s (by omega)
      have hw := hs_w1 (G := G) (by omega) (yd s)
      have htX := hs_pbc (s := s) (V := 1) (by omega) hc1 w4 w5 w6 (xo s) (xk s) (xb s)
      rw [show 100 * 1 = 100 from rfl, eo, ek, eb] at htX
      cases ht : hb_sc (hb_pb yo yk yb (yo s) (yk s) (yb s)) c1 100 with
      | some t =>
        rw [ht, ← eo, ← ek, ← eb] at htX
        obtain ⟨t1, t2, t3, t4⟩ := hb_sc_some ht
        have t3 := of_decide_eq_true t3
        have hJ' := hp_sendT (S1' := sy ≠ 0 ∧ (1 : Int32) ≠ 0) (d' := upd yd t (hs_w (nI G) (yd s))) hJ hsy hs hdue hmin' t1 t2 t3.1 t3.2.1 t3.2.2 (by rw [pk_us]; exact hw.1) (by rw [pk_us]; exact hw.2) (fun i hi => pk_un hi)
        have hI' := hp_keep (v' := yv) hI hJ' (fun _ _ => rfl) (fun _ _ => rfl) (fun _ _ => rfl) (fun i hi => pk_un (by omega)) (fun _ _ => rfl)
        have hA' := hb_Ag_u w7 t (hs_w (nI G) (yd s))
        obtain ⟨r, u', v', g1, g2, g3⟩ := ih (sent + 1) c1 1 (yo s) (yk s) (yb s) xo xk xb (upd xd t (hs_w (nI G) (yd s))) xv xc yo yk yb (upd yd t (hs_w (nI G) (yd s))) yv yc (by omega)
          ⟨w1, w2, w3, w4, w5, w6, hA', w8, w9, w10, w11, w12, w13, hI'⟩
        refine ⟨r, u', v', g1, fun post hp => ?_, fun post hp => ?_⟩
        · have g := g2 post hp
          refine br_f hle (br_f (hb_n1 (by omega)) ?_)
          refine hx_sendT (c := c1) (by omega) w10 hc1 htX ?_
          refine br_f (by decide) (nm_r (nI_1 sent) ?_)
          refine hx_send (c := c0) (by omega) (by omega) hUG w9 hc0 ?_
          rw [eo, ek, eb, ed, hs_Ag hc0 w4 w5 w6 hA' hJ'.2.2.2.2.2.2.2.2.1]
          exact g
        · have g := g3 post hp
          refine br_f (hb_nn (by omega)) (br_f hle ?_)
          rw [show hb_o (some s) = nI s from rfl, hb_cl (j := s) (by omega)]
          refine ⟨hvy, hvy, hvy, ?_⟩
          refine hy_born (V := 1) (by omega) w12 hc1 _ _ _ ?_
          rw [show 100 * 1 = 100 from rfl, ht]
          refine br_t (hb_np (by omega)) ?_
          refine hy_115 (by omega) _ _ _ _ _ ?_
          unfold wY_sync_138
          refine br_f (hb_nn (by omega)) ⟨vp_in_nI (by omega) (by omega), ?_⟩
          rw [show hb_o (some t) = nI t from rfl, hb_cl (j := t) (by omega)]
          refine nm_e ?_
          exact hy_188 (by omega) (by omega) (by omega) w11 hc0 _ _ _ _ g
      | none =>
        rw [ht, ← eo, ← ek, ← eb] at htX
        have hno := hb_sc_none ht
        by_cases hf : c1 = 100
        · refine ⟨nI sent, _, _, hr_mk (ss := ss) (fp := fp) h', fun post hp => ?_, fun post hp => ?_⟩
          · refine br_f hle (br_f (hb_n1 (by omega)) ?_)
            refine hx_sendF (c := c1) (by omega) w10 hf htX ?_
            exact br_t rfl (br_f (hb_n1 (by omega)) hp)
          · refine br_f (hb_nn (by omega)) (br_f hle ?_)
            rw [show hb_o (some s) = nI s from rfl, hb_cl (j := s) (by omega)]
            refine ⟨hvy, hvy, hvy, ?_⟩
            refine hy_born (V := 1) (by omega) w12 hc1 _ _ _ ?_
            rw [show 100 * 1 = 100 from rfl, ht]
            exact br_f hb_mp (br_t (by rw [w12, hf]; rfl) hp)
        · have hJ' := hp_sendA (S1' := sy ≠ 0 ∧ (1 : Int32) ≠ 0) (o' := upd yo (100 + c1) (yo s)) (k' := upd yk (100 + c1) (yk s)) (b' := upd yb (100 + c1) (yb s)) (d' := upd yd (100 + c1) (hs_w (nI G) (yd s))) hJ hsy hs hdue hmin' (by omega)
            (fun m m1 m2 m3 m4 m5 => hno m m1 m2 (decide_eq_true ⟨m3, m4, (hb_eq _ _).mpr m5⟩)) pk_us pk_us pk_us (by rw [pk_us]; exact hw.1) (by rw [pk_us]; exact hw.2) (fun i hi => pk_un hi) (fun i hi => pk_un hi) (fun i hi => pk_un hi) (fun i hi => pk_un hi)
          have hI' := hp_keep (v' := upd yv (100 + c1) (yv s)) hI hJ' (fun i hi => pk_un (by omega)) (fun i hi => pk_un (by omega)) (fun i hi => pk_un (by omega)) (fun i hi => pk_un (by omega)) (fun i hi => pk_un (by omega))
          have A1 := hb_Ag_u w4 (100 + c1) (yo s)
          have A2 := hb_Ag_u w5 (100 + c1) (yk s)
          have A3 := hb_Ag_u w6 (100 + c1) (yb s)
          have A4 := hb_Ag_u w7 (100 + c1) (hs_w (nI G) (yd s))
          have A5 := hb_Ag_u w8 (100 + c1) (yv s)
          have hc9 : ∀ (a : Nat → Int32) (x : Int32), upd a (100 + c1) x s = a s := fun a x => pk_un (by omega)
          obtain ⟨r, u', v', g1, g2, g3⟩ := ih (sent + 1) (c1 + 1) 1 (yo s) (yk s) (yb s) (upd xo (100 + c1) (yo s)) (upd xk (100 + c1) (yk s)) (upd xb (100 + c1) (yb s)) (upd xd (100 + c1) (hs_w (nI G) (yd s))) (upd xv (100 + c1) (yv s)) (upd xc 1 (nI (c1 + 1)))
            (upd yo (100 + c1) (yo s)) (upd yk (100 + c1) (yk s)) (upd yb (100 + c1) (yb s)) (upd yd (100 + c1) (hs_w (nI G) (yd s))) (upd yv (100 + c1) (yv s)) (upd yc 1 (nI (c1 + 1))) (by omega)
            ⟨w1, w2, w3, A1, A2, A3, A4, A5, by rw [pk_un (by omega)]; exact w9, pk_us, by rw [pk_un (by omega)]; exact w11, pk_us, by rw [pk_un (by omega)]; exact w13, hI'⟩
          refine ⟨r, u', v', g1, fun post hp => ?_, fun post hp => ?_⟩
          · have g := g2 post hp
            refine br_f hle (br_f (hb_n1 (by omega)) ?_)
            refine hx_sendA (c := c1) (by omega) w10 (by omega) htX ?_
            refine br_f (by decide) (nm_r (nI_1 sent) ?_)
            refine hx_send (c := c0) (by omega) (by omega) hUG (by rw [pk_un (by omega)]; exact w9) hc0 ?_
            rw [eo, ek, eb, ed, ev, hs_Ag hc0 A1 A2 A3 A4 hJ'.2.2.2.2.2.2.2.2.1]
            exact g
          · have g := g3 post hp
            refine br_f (hb_nn (by omega)) (br_f hle ?_)
            rw [show hb_o (some s) = nI s from rfl, hb_cl (j := s) (by omega)]
            refine ⟨hvy, hvy, hvy, ?_⟩
            refine hy_born (V := 1) (by omega) w12 hc1 _ _ _ ?_
            rw [show 100 * 1 = 100 from rfl, ht]
            refine br_f hb_mp (br_f (fun z => ?_) ?_)
            · rw [w12, show (100 : Int32) = nI 100 from rfl, nI_eq (by omega) (by omega)] at z
              exact hf z
            refine hy_115 (by omega) _ _ _ _ _ ?_
            unfold wY_sync_138
            refine br_t hb_mn ?_
            rw [hb_cl (j := s) (by omega)]
            refine ⟨hvy, hvy, hvy, hvy, ?_⟩
            refine hy_add (V := 1) (by omega) w12 (by omega) _ _ _ _ _ ?_
            refine hy_188 (c0 := c0) (by omega) (by omega) (by omega) (by rw [pk_un (by omega)]; exact w11) hc0 _ _ _ _ ?_
            rw [show 100 * 1 + c1 = 100 + c1 from rfl, hc9, hc9, hc9]
            exact g
end
section
theorem hr_up {k D C V SN U G c0 c1 c2 : Nat} {sy an so sk sb : Int32} {xo xk xb xd xv xc yo yk yb yd yv yc : Nat → Int32}
    (h : hr_S k D C V SN U G c0 c1 c2 sy an so sk sb xo xk xb xd xv xc yo yk yb yd yv yc) : hr_S (k + 4) D C V SN U G c0 c1 c2 sy an so sk sb xo xk xb xd xv xc yo yk yb yd yv yc :=
  ⟨by have := h.1; omega, h.2⟩
theorem i_up {k : Nat} {u : SX} {v : SY} (h : i_Rel k u v) : i_Rel (k + 4) u v := by
  obtain ⟨D, C, V, SN, U, G, c0, c1, c2, sy, an, so, sk, sb, xo, xk, xb, xd, xv, xc, yo, yk, yb, yd, yv, yc, ss, fp, rfl, rfl, h⟩ := h
  exact hr_mk (hr_up h)
theorem i_vc0 : wpX_init (fun u => wpY_init (fun v => i_Rel 0 u v)) := by
  unfold wpX_init wpY_init
  refine hr_mk (D := 0) (C := 0) (V := 0) (SN := 0) (U := 0) (G := 0) (c0 := 0) (c1 := 0) (c2 := 0) ⟨by omega, by omega, by omega, fun _ _ => rfl, fun _ _ => rfl, fun _ _ => rfl, fun _ _ => rfl, fun _ _ => rfl, rfl, rfl, rfl, rfl, rfl, ?_⟩
  refine ⟨by omega, ⟨by omega, by omega, by omega, by omega, by omega, fun z => absurd rfl z, ?_, ?_, ?_, ?_, ?_, ?_, ?_⟩, ⟨by omega, ?_, ?_⟩, fun _ => ⟨rfl, ?_⟩⟩
  · intro i h1 h2; omega
  · intro i h1 h2; omega
  · intro i j h1 h2; omega
  · intro i j h1 h2; omega
  · intro i j h1; omega
  · intro m h1 h2; omega
  · intro i m h1; omega
  · intro i h1; omega
  · intro i h1 h2; omega
  · intro i h1; omega
theorem hw_vis {D c i : Nat} {b d : Nat → Int32} (hD : D < 1000) (h : hp_Rg 0 c (D + 1) b d) (hi : i < c) : hb_vis b d (nI (D + 1)) i = true ↔ (d i).toInt = 0 := by
  have h := h i (by omega) (by omega)
  have e : (nI (D + 1)).toInt = ((D + 1 : Nat) : Int) := nI_toInt (by omega)
  unfold hb_vis
  rw [decide_eq_true_iff, hb_lt, hb_le, hb_eq, hb_0, e]
  omega
theorem hw_pv {c V : Nat} (hV : V < 2) {xo xk xb xd yo yk yb yd : Nat → Int32} (hc : c ≤ 100) (h1 : hb_Ag xo yo) (h2 : hb_Ag xk yk) (h3 : hb_Ag xb yb) (h4 : hb_Ag xd yd) (x y t : Int32) :
    hb_sc (hb_pv xo xk xb xd x y t) c (100 * V) = hb_sc (hb_pv yo yk yb yd x y t) c (100 * V) := by
  refine hb_sc_congr (fun l g1 g2 => ?_)
  unfold hb_pv hb_vis
  rw [h1 l (by omega), h2 l (by omega), h3 l (by omega), h4 l (by omega)]
theorem hx_endv {ld ch av sn mu sy sg an so sk sb : Int32} {xo xk xb xd xv xc ss fp : Nat → Int32} {c : Nat} (hc : xc 0 = nI c) (hl : c ≤ 100) (x y w : Int32) {post : Int32 → SX → Prop}
    (h0 : hb_sc (hb_pv xo xk xb xd x y w) c 0 = none → post 0 (ld, ch, av, sn, mu, sy, sg, an, so, sk, sb, xo, xk, xb, xd, xv, xc, ss, fp))
    (h1 : ∀ e, hb_sc (hb_pv xo xk xb xd x y w) c 0 = some e → post 1 (ld, ch, av, sn, mu, sy, sg, an, so, sk, sb, xo, xk, xb, (upd xd e w), xv, xc, ss, fp)) : wpX_endVisible post (ld, ch, av, sn, mu, sy, sg, an, so, sk, sb, xo, xk, xb, xd, xv, xc, ss, fp) x y w := by
  unfold wpX_endVisible
  dsimp only
  refine hx_seen (V := 0) (by omega) hc hl _ _ _ ?_
  rw [show 100 * 0 = 0 from rfl]
  cases hr : hb_sc (hb_pv xo xk xb xd x y w) c 0 with
  | none => exact br_t rfl (h0 hr)
  | some e =>
    have he := hb_sc_some hr
    refine br_f (hb_n1 (by omega)) ⟨vp_in_nI (by omega) (by omega), ?_⟩
    rw [show hb_o (some e) = nI e from rfl, hb_cl (j := e) (by omega)]
    exact nm_e (h1 e hr)
theorem i_vc_remove {k : Nat} {u : SX} {v : SY} (I : i_Rel k u v) (hk : k + 4 ≤ 2048) (v1 : Int32) (v2 : Int32) : wpX_remove (fun r u' => wpY_remove (fun r' v' => r' = r ∧ i_Rel (k + 4) u' v') v v1 v2) u v1 v2 := by
  obtain ⟨D, C, V, SN, U, G, c0, c1, c2, sy, an, so, sk, sb, xo, xk, xb, xd, xv, xc, yo, yk, yb, yd, yv, yc, ss, fp, rfl, rfl, h⟩ := I
  have h' := hr_up h
  obtain ⟨w1, w2, w3, w4, w5, w6, w7, w8, w9, w10, w11, w12, w13, hI⟩ := h
  have hJ := hI.2.1
  have hC := hI.1
  have hc0 := hJ.1
  have hRg := hJ.2.2.2.2.2.2.1
  have hD : D < 1000 := by omega
  have hpv := hw_pv (V := 0) (by omega) hc0 w4 w5 w6 w7 v1 v2 (nI (D + 1))
  rw [show 100 * 0 = 0 from rfl] at hpv
  unfold wpX_remove
  dsimp only
  by_cases hlt : C < 40
  · refine br_t (nI_lt (b := 40) hlt (by omega)) ?_
    rw [nI_1 D]
    refine hx_endv w9 hc0 v1 v2 (nI (D + 1)) (fun hr => br_t rfl ?_) (fun e hr => br_f (by decide) (nm_r (nI_1 C) ?_))
    · rw [hpv] at hr
      unfold wpY_remove
      dsimp only
      rw [nI_1 D]
      refine hy_seen (V := 0) (by omega) w11 hc0 _ _ _ ?_
      rw [show 100 * 0 = 0 from rfl, hr]
      exact br_t hb_mn ⟨rfl, hr_mk h'⟩
    · rw [hpv] at hr
      obtain ⟨q1, q2, q3, q4⟩ := hb_sc_some hr
      have q3 := (of_decide_eq_true q3).2.2
      rw [hw_vis hD hRg (by omega)] at q3
      unfold wpY_remove
      dsimp only
      rw [nI_1 D]
      refine hy_seen (V := 0) (by omega) w11 hc0 _ _ _ ?_
      rw [show 100 * 0 = 0 from rfl, hr]
      refine br_f (hb_nn (by omega)) (br_f (fun z => ?_) ⟨vp_in_nI (by omega) (by omega), ?_⟩)
      · rw [show (40 : Int32) = nI 40 from rfl, nI_eq (by omega) (by omega)] at z
        omega
      rw [show hb_o (some e) = nI e from rfl, hb_cl (j := e) (by omega)]
      refine nm_e (nm_r (nI_1 C) ⟨rfl, hr_mk ⟨h'.1, w2, w3, w4, w5, w6, hb_Ag_u w7 e (nI (D + 1)), w8, w9, w10, w11, w12, w13, ?_⟩⟩)
      exact hp_end (hp_bump hI hlt) (by omega) q3 (by rw [pk_us, nI_toInt (by omega)]; omega) (fun i hi => pk_un hi)
  · refine br_f (nI_nlt (b := 40) (by omega) (by omega)) ?_
    unfold wpY_remove
    dsimp only
    refine hy_seen (V := 0) (by omega) w11 hc0 _ _ _ ?_
    refine br_c (fun _ => ⟨rfl, hr_mk h'⟩) (fun _ => br_t ?_ ⟨rfl, hr_mk h'⟩)
    rw [show C = 40 from by omega]; rfl
theorem i_vc_write {k : Nat} {u : SX} {v : SY} (I : i_Rel k u v) (hk : k + 4 ≤ 2048) (v1 : Int32) (v2 : Int32) (v3 : Int32) : wpX_write (fun r u' => wpY_write (fun r' v' => r' = r ∧ i_Rel (k + 4) u' v') v v1 v2 v3) u v1 v2 v3 := by
  obtain ⟨D, C, V, SN, U, G, c0, c1, c2, sy, an, so, sk, sb, xo, xk, xb, xd, xv, xc, yo, yk, yb, yd, yv, yc, ss, fp, rfl, rfl, h⟩ := I
  have h' := hr_up h
  obtain ⟨w1, w2, w3, w4, w5, w6, w7, w8, w9, w10, w11, w12, w13, hI⟩ := h
  have hJ := hI.2.1
  have hC := hI.1
  have hc0 := hJ.1
  have hRg := hJ.2.2.2.2.2.2.1
  have hDj := hJ.2.2.2.2.2.2.2.2.1
  have hD : D < 1000 := by omega
  have eD : (nI (D + 1)).toInt = ((D + 1 : Nat) : Int) := nI_toInt (by omega)
  have hpv := hw_pv (V := 0) (by omega) hc0 w4 w5 w6 w7 v1 v2 (nI (D + 1))
  have hpb := hs_pbc (s := 0) (V := 0) (by omega) hc0 w4 w5 w6 v1 v2 (nI (D + 1))
  rw [show 100 * 0 = 0 from rfl] at hpv hpb
  have hC40 : C < 40 → ¬ nI C = 40 := fun q z => by
    rw [show (40 : Int32) = nI 40 from rfl, nI_eq (by omega) (by omega)] at z
    omega
  unfold wpX_write
  dsimp only
  by_cases hlt : C < 40
  · refine br_t (nI_lt (b := 40) hlt (by omega)) (nm_r (nI_1 D) ?_)
    refine hx_born (V := 0) (by omega) w9 hc0 _ _ _ ?_
    rw [show 100 * 0 = 0 from rfl, hpb]
    cases hown : hb_sc (hb_pb yo yk yb v1 v2 (nI (D + 1))) c0 0 with
    | some e =>
      obtain ⟨q1, q2, q3, q4⟩ := hb_sc_some hown
      have q3 := of_decide_eq_true q3
      have hbe : (yb e).toInt = (D : Int) + 1 := by rw [q3.2.2, eD]; omega
      have hvx : vp_in (nI e) 200 := vp_in_nI (by omega) (by omega)
      have hvy : vp_in (nI e) 300 := vp_in_nI (by omega) (by omega)
      refine br_f (hb_n1 (by omega)) ?_
      rw [show hb_o (some e) = nI e from rfl, hb_cl (j := e) (by omega)]
      refine ⟨hvx, nm_e ⟨hvx, nm_e ?_⟩⟩
      refine nm_r (nI_1 C) ?_
      have hrel : i_Rel (k + 4) ((nI D), (nI (C + 1)), (nI V), (nI SN), (nI U), sy, (nI G), an, so, sk, sb, xo, xk, xb, (upd xd e 0), (upd xv e v3), xc, ss, fp) ((nI D), (nI (C + 1)), (nI V), (nI SN), (nI U), sy, (nI G), an, so, sk, sb, yo, yk, yb, (upd yd e 0), (upd yv e v3), yc, ss, fp) :=
        hr_mk ⟨h'.1, w2, w3, w4, w5, w6, hb_Ag_u w7 e 0, hb_Ag_u w8 e v3, w9, w10, w11, w12, w13, hp_own (hp_bump hI hlt) (e := e) (by omega) hbe (by rw [pk_us]; exact hb_0) (fun i hi => pk_un hi) (fun i hi => pk_un hi)⟩
      unfold wpY_write
      dsimp only
      refine nm_r (nI_1 D) ?_
      refine hy_born (V := 0) (by omega) w11 hc0 _ _ _ ?_
      rw [show 100 * 0 = 0 from rfl, hown]
      refine hy_seen (V := 0) (by omega) w11 hc0 _ _ _ ?_
      rw [show 100 * 0 = 0 from rfl]
      refine br_f (hC40 hlt) (br_t (hb_np (by omega)) ?_)
      have h78 : wY_write_78 (fun r' v' => r' = 1 ∧ i_Rel (k + 4) ((nI D), (nI (C + 1)), (nI V), (nI SN), (nI U), sy, (nI G), an, so, sk, sb, xo, xk, xb, (upd xd e 0), (upd xv e v3), xc, ss, fp) v') v1 v2 v3 (nI (D + 1)) (nI e) (nI D) (nI C) (nI V) (nI SN) (nI U) sy (nI G) an so sk sb yo yk yb yd yv yc ss fp := by
        unfold wY_write_78
        refine br_f (hb_nn (by omega)) ⟨hvy, ?_⟩
        rw [hb_cl (j := e) (by omega)]
        exact nm_e ⟨hvy, nm_e (nm_r (nI_1 C) ⟨rfl, hrel⟩)⟩
      unfold wY_write_57
      cases hold : hb_sc (hb_pv yo yk yb yd v1 v2 (nI (D + 1))) c0 0 with
      | none => exact br_t hb_mn h78
      | some e2 =>
        obtain ⟨p1, p2, p3, p4⟩ := hb_sc_some hold
        have p3 := of_decide_eq_true p3
        have p5 := p3.2.2
        rw [hw_vis hD hRg (by omega)] at p5
        have ee : e2 = e := by
          by_cases z : e2 = e
          · exact z
          · have r1 := hDj e2 e (by omega) (by omega) (by omega) (by omega) z (p3.1.trans q3.1.symm) (p3.2.1.trans q3.2.1.symm)
            have r2 := hRg e2 (by omega) (by omega)
            omega
        subst ee
        exact br_f (hb_nn (by omega)) (br_t rfl h78)
    | none =>
      have hno := hb_sc_none hown
      refine br_t rfl ?_
      rw [w9]
      by_cases hfull : c0 < 100
      · refine br_t (nI_lt (b := 100) hfull (by omega)) ?_
        have hne : ∀ i, i < c0 → yo i = v1 → yk i = v2 → (yb i).toInt ≠ (D : Int) + 1 := fun i hi z1 z2 z3 =>
          hno i (by omega) (by omega) (decide_eq_true ⟨z1, z2, by rw [hb_eq, eD]; omega⟩)
        have hY100 : ¬ yc 0 = 100 := fun z => by
          rw [w11, show (100 : Int32) = nI 100 from rfl, nI_eq (by omega) (by omega)] at z
          omega
        refine hx_endv w9 hc0 v1 v2 (nI (D + 1)) (fun hr => ?_) (fun e hr => ?_)
        · rw [hpv] at hr
          have hnv := hb_sc_none hr
          refine hx_add (V := 0) (by omega) w9 hfull _ _ _ _ _ ?_
          rw [show 100 * 0 + c0 = c0 from by omega]
          refine nm_r (nI_1 C) ?_
          unfold wpY_write
          dsimp only
          refine nm_r (nI_1 D) ?_
          refine hy_born (V := 0) (by omega) w11 hc0 _ _ _ ?_
          rw [show 100 * 0 = 0 from rfl, hown]
          refine hy_seen (V := 0) (by omega) w11 hc0 _ _ _ ?_
          rw [show 100 * 0 = 0 from rfl, hr]
          refine br_f (hC40 hlt) (br_f hb_mp (br_f hY100 ?_))
          refine br_t hb_mn ?_
          refine br_t hb_mn ?_
          refine hy_add (V := 0) (by omega) w11 hfull _ _ _ _ _ ?_
          rw [show 100 * 0 + c0 = c0 from by omega]
          refine nm_r (nI_1 C) ⟨rfl, hr_mk ⟨h'.1, w2, w3, hb_Ag_u w4 _ _, hb_Ag_u w5 _ _, hb_Ag_u w6 _ _, hb_Ag_u w7 _ _, hb_Ag_u w8 _ _, pk_us, by rw [pk_un (by omega)]; exact w10, pk_us, by rw [pk_un (by omega)]; exact w12, by rw [pk_un (by omega)]; exact w13, ?_⟩⟩
          refine hp_add (hp_bump hI hlt) hfull (p := v1) (q := v2) ?_ pk_us pk_us (by rw [pk_us, eD]; omega) (by rw [pk_us]; exact hb_0) (fun i hi => pk_un hi) (fun i hi => pk_un hi) (fun i hi => pk_un hi) (fun i hi => pk_un hi) (fun i hi => pk_un hi)
          intro i hi z1 z2
          refine ⟨hne i hi z1 z2, fun z3 => hnv i (by omega) (by omega) (decide_eq_true ⟨z1, z2, (hw_vis hD hRg hi).mpr z3⟩)⟩
        · rw [hpv] at hr
          obtain ⟨p1, p2, p3, p4⟩ := hb_sc_some hr
          have p3 := of_decide_eq_true p3
          have p5 := p3.2.2
          rw [hw_vis hD hRg (by omega)] at p5
          have hvy : vp_in (nI e) 300 := vp_in_nI (by omega) (by omega)
          refine hx_add (V := 0) (by omega) w9 hfull _ _ _ _ _ ?_
          rw [show 100 * 0 + c0 = c0 from by omega]
          refine nm_r (nI_1 C) ?_
          unfold wpY_write
          dsimp only
          refine nm_r (nI_1 D) ?_
          refine hy_born (V := 0) (by omega) w11 hc0 _ _ _ ?_
          rw [show 100 * 0 = 0 from rfl, hown]
          refine hy_seen (V := 0) (by omega) w11 hc0 _ _ _ ?_
          rw [show 100 * 0 = 0 from rfl, hr]
          refine br_f (hC40 hlt) (br_f hb_mp (br_f hY100 ?_))
          refine br_f (hb_nn (by omega)) (br_f (hb_n1 (by omega)) ?_)
          rw [show hb_o (some e) = nI e from rfl, hb_cl (j := e) (by omega)]
          refine ⟨hvy, nm_e ?_⟩
          refine br_t hb_mn ?_
          refine hy_add (V := 0) (by omega) w11 hfull _ _ _ _ _ ?_
          rw [show 100 * 0 + c0 = c0 from by omega]
          refine nm_r (nI_1 C) ⟨rfl, hr_mk ⟨h'.1, w2, w3, hb_Ag_u w4 _ _, hb_Ag_u w5 _ _, hb_Ag_u w6 _ _, hb_Ag_u (hb_Ag_u w7 _ _) _ _, hb_Ag_u w8 _ _, pk_us, by rw [pk_un (by omega)]; exact w10, pk_us, by rw [pk_un (by omega)]; exact w12, by rw [pk_un (by omega)]; exact w13, ?_⟩⟩
          have hI2 := hp_end (d' := upd yd e (nI (D + 1))) (hp_bump hI hlt) (e := e) (by omega) p5 (by rw [pk_us, eD]; omega) (fun i hi => pk_un hi)
          refine hp_add hI2 hfull (p := v1) (q := v2) ?_ pk_us pk_us (by rw [pk_us, eD]; omega) (by rw [pk_us]; exact hb_0) (fun i hi => pk_un hi) (fun i hi => pk_un hi) (fun i hi => pk_un hi) (fun i hi => pk_un hi) (fun i hi => pk_un hi)
          intro i hi z1 z2
          refine ⟨hne i hi z1 z2, fun z3 => ?_⟩
          by_cases z : i = e
          · rw [z, pk_us, eD] at z3
            omega
          · rw [pk_un z] at z3
            have r1 := hDj i e (by omega) (by omega) (by omega) (by omega) z (z1.trans p3.1.symm) (z2.trans p3.2.1.symm)
            have r2 := hDj e i (by omega) (by omega) (by omega) (by omega) (fun y => z y.symm) (p3.1.trans z1.symm) (p3.2.1.trans z2.symm)
            omega
      · refine br_f (nI_nlt (b := 100) (by omega) (by omega)) ?_
        unfold wpY_write
        dsimp only
        refine nm_r (nI_1 D) ?_
        refine hy_born (V := 0) (by omega) w11 hc0 _ _ _ ?_
        rw [show 100 * 0 = 0 from rfl, hown]
        refine hy_seen (V := 0) (by omega) w11 hc0 _ _ _ ?_
        refine br_f (hC40 hlt) (br_f hb_mp (br_t ?_ ⟨rfl, hr_mk h'⟩))
        rw [w11, show c0 = 100 from by omega]; rfl
  · refine br_f (nI_nlt (b := 40) (by omega) (by omega)) ?_
    unfold wpY_write
    dsimp only
    refine nm_r (nI_1 D) ?_
    refine hy_born (V := 0) (by omega) w11 hc0 _ _ _ ?_
    refine hy_seen (V := 0) (by omega) w11 hc0 _ _ _ ?_
    refine br_t ?_ ⟨rfl, hr_mk h'⟩
    rw [show C = 40 from by omega]; rfl
end
section
theorem hb_Ag_cp {c : Nat} {a b : Nat → Int32} (h : hb_Ag a b) : hb_Ag a (hb_cp 0 200 c b) := by
  intro j hj
  unfold hb_cp
  rw [if_neg (by omega)]; exact h j hj
theorem i_vc_commit {k : Nat} {u : SX} {v : SY} (I : i_Rel k u v) (hk : k + 4 ≤ 2048) : wpX_commit (fun r u' => wpY_commit (fun r' v' => r' = r ∧ i_Rel (k + 4) u' v') v) u := by
  obtain ⟨D, C, V, SN, U, G, c0, c1, c2, sy, an, so, sk, sb, xo, xk, xb, xd, xv, xc, yo, yk, yb, yd, yv, yc, ss, fp, rfl, rfl, h⟩ := I
  have h' := hr_up h
  obtain ⟨w1, w2, w3, w4, w5, w6, w7, w8, w9, w10, w11, w12, w13, hI⟩ := h
  have hJ := hI.2.1
  have hC := hI.1
  have hc0 := hJ.1
  have hD : D < 900 := by omega
  have eD : (nI (D + 1)).toInt = ((D + 1 : Nat) : Int) := nI_toInt (by omega)
  unfold wpX_commit
  dsimp only
  by_cases hz : C = 0
  · subst hz
    refine br_t nI_0 ?_
    unfold wpY_commit
    dsimp only
    exact br_t nI_0 ⟨rfl, hr_mk h'⟩
  · have hCn : ¬ nI C = 0 := nI_ne0 (by omega) (by omega)
    refine br_f hCn (nm_r (nI_1 D) (nm_r (e' := nI c0 + (-1)) (by rw [w9, Int32.sub_eq_add_neg]) ?_))
    obtain ⟨c', xo', xk', xb', xd', xv', xc', yo', yk', yb', yd', yv', yc', g1, g2, g3⟩ := hl_commit (N := D + 1) (n0 := c0) (by omega) (ld := nI D) (ch := nI C) (av := nI V) (sn := nI SN) (mu := nI U) (sy := sy) (sg := nI G) (an := an) (so := so) (sk := sk) (sb := sb) (ss := ss) (fp := fp)
      (xc0 := xc) (yc0 := yc) (o0 := yo) (k0 := yk) (b0 := yb) (d0 := yd) c0 c0 xo xk xb xd xv xc yo yk yb yd yv yc (Nat.le_refl c0) ⟨w4, w5, w6, w7, w8, w9, w11, fun _ _ => rfl, fun _ _ => rfl, hc0, hp_Sq_0 _ _ _ _ _ _ _⟩
    obtain ⟨a1, a2, a3, a4, a5, a6, a7, a8, a9, a10, a11⟩ := g1
    have hJ2 := hp_sub0 hJ a11 (fun i hi hq => Or.inl (by rw [hq.1, eD]; omega))
    have hJ3 := hp_J_mono (D' := D + 1) (E' := D + 1) hJ2 (by omega) (by omega) (by omega) id id
    refine ⟨c0 + 1, g2 _ ?_⟩
    unfold wpY_commit
    dsimp only
    refine br_f hCn (nm_r (nI_1 D) (nm_r (e' := nI c0 + (-1)) (by rw [w11, Int32.sub_eq_add_neg]) ?_))
    refine ⟨c0 + 1, g3 _ ⟨rfl, ?_⟩⟩
    refine hr_mk (C := 0) ⟨by omega, w2, w3, hb_Ag_cp a1, hb_Ag_cp a2, hb_Ag_cp a3, hb_Ag_cp a4, hb_Ag_cp a5, a6, (a8 1 (by omega)).trans w10, by rw [pk_un (by omega)]; exact a7, by rw [pk_un (by omega)]; exact (a9 1 (by omega)).trans w12, pk_us, hp_fin hJ3⟩
theorem hr_abort {k D C V SN U G c0 c1 c2 : Nat} {sy an so sk sb : Int32} {xo xk xb xd xv xc yo yk yb yd yv yc : Nat → Int32} (hk : D < 900)
    (h : hr_S k D C V SN U G c0 c1 c2 sy an so sk sb xo xk xb xd xv xc yo yk yb yd yv yc) (xc' : Nat → Int32) (h0 : xc' 0 = nI c2) (h1 : xc' 1 = nI c1) :
    hr_S k D 0 V SN U G c2 c1 c2 sy an so sk sb xo xk xb (hb_un 0 c2 (nI (D + 1)) xd) xv xc' (hb_cp 200 0 c2 yo) (hb_cp 200 0 c2 yk) (hb_cp 200 0 c2 yb) (hb_cp 200 0 c2 yd) (hb_cp 200 0 c2 yv) (upd yc 0 (nI c2)) := by
  obtain ⟨w1, w2, w3, w4, w5, w6, w7, w8, w9, w10, w11, w12, w13, hI⟩ := h
  have hI2 := hp_abort hI
  have eD : (nI (D + 1)).toInt = ((D + 1 : Nat) : Int) := nI_toInt (by omega)
  obtain ⟨b1, hJ, ⟨s1, s2, s3⟩, b4⟩ := hI
  have hc0 := hJ.1
  have hcp : ∀ (a x : Nat → Int32), hb_Ag x a → (∀ i, i < c2 → a (200 + i) = a i) → hb_Ag x (hb_cp 200 0 c2 a) := by
    intro a x ha hs j hj
    unfold hb_cp
    by_cases e : j < c2
    · rw [if_pos (by omega), show 200 + (j - 0) = 200 + j from by omega, hs j e]; exact ha j hj
    · rw [if_neg (by omega)]; exact ha j hj
  refine ⟨w1, w2, w3, hcp _ _ w4 (fun i hi => (s2 i hi).1), hcp _ _ w5 (fun i hi => (s2 i hi).2.1), hcp _ _ w6 (fun i hi => (s2 i hi).2.2.1), ?_, hcp _ _ w8 (fun i hi => (s2 i hi).2.2.2.1), h0, h1, pk_us, by rw [pk_un (by omega)]; exact w12, by rw [pk_un (by omega)]; exact w13, hI2⟩
  intro j hj
  unfold hb_un hb_cp
  by_cases e : j < c2
  · have q := s2 j e
    rw [if_pos (c := 0 ≤ j ∧ j < 0 + c2) (by omega), show 200 + (j - 0) = 200 + j from by omega, w7 j hj]
    by_cases z : yd j = nI (D + 1)
    · rw [if_pos ⟨by omega, e, z⟩, hb_eq, hb_0]
      have z2 : (yd j).toInt = (D : Int) + 1 := by rw [z, eD]; omega
      have := q.2.2.2.2.2.1 z2
      omega
    · rw [if_neg (fun y => z y.2.2), hb_eq]
      have z2 : (yd j).toInt ≠ (D : Int) + 1 := fun y => z (by rw [hb_eq, eD]; omega)
      have := q.2.2.2.2.2.2 z2
      omega
  · rw [if_neg (fun y => e y.2.1), if_neg (c := 0 ≤ j ∧ j < 0 + c2) (by omega)]
    exact w7 j hj
theorem hr_undo {k D C V SN U G c0 c1 c2 : Nat} {sy an so sk sb : Int32} {xo xk xb xd xv xc yo yk yb yd yv yc : Nat → Int32} (hk : D < 900)
    (h : hr_S k D C V SN U G c0 c1 c2 sy an so sk sb xo xk xb xd xv xc yo yk yb yd yv yc) :
    c2 ≤ c0 ∧ c0 ≤ 100 ∧ (∀ i, i < c2 → ¬ xb i = nI (D + 1)) ∧ (∀ i, c2 ≤ i → i < c0 → xb i = nI (D + 1)) := by
  obtain ⟨w1, w2, w3, w4, w5, w6, w7, w8, w9, w10, w11, w12, w13, hI⟩ := h
  have eD : (nI (D + 1)).toInt = ((D + 1 : Nat) : Int) := nI_toInt (by omega)
  obtain ⟨b1, hJ, ⟨s1, s2, s3⟩, b4⟩ := hI
  have hc0 := hJ.1
  refine ⟨s1, hc0, ?_, ?_⟩
  · intro i hi z
    rw [w6 i (by omega), hb_eq, eD] at z
    have := s2 i hi
    omega
  · intro i h1 h2
    rw [w6 i (by omega), hb_eq, eD]
    have := s3 i h1 h2
    omega
theorem i_vc_abort {k : Nat} {u : SX} {v : SY} (I : i_Rel k u v) (hk : k + 4 ≤ 2048) : wpX_abort (fun r u' => wpY_abort (fun r' v' => r' = r ∧ i_Rel (k + 4) u' v') v) u := by
  obtain ⟨D, C, V, SN, U, G, c0, c1, c2, sy, an, so, sk, sb, xo, xk, xb, xd, xv, xc, yo, yk, yb, yd, yv, yc, ss, fp, rfl, rfl, h⟩ := I
  have h' := hr_up h
  have hD : D < 900 := by have := h.1; omega
  obtain ⟨q1, q2, q3, q4⟩ := hr_undo hD h
  unfold wpX_abort
  dsimp only
  refine hx_undo (N := D + 1) (c0 := c0) (c2 := c2) (a := nI c1) (nI_1 D) q1 q2 q3 q4 h.2.2.2.2.2.2.2.2.1 h.2.2.2.2.2.2.2.2.2.1 ?_
  intro xc' e0 e1
  dsimp only
  unfold wpY_abort
  dsimp only
  refine hy_copy (P := 2) (Q := 0) (c := c2) (by omega) (by omega) (by omega) h.2.2.2.2.2.2.2.2.2.2.2.2.1 (by omega) ?_
  exact ⟨rfl, hr_mk (C := 0) (hr_abort hD h' xc' e0 e1)⟩
theorem i_vc_crash {k : Nat} {u : SX} {v : SY} (I : i_Rel k u v) (hk : k + 4 ≤ 2048) : wpX_crash (fun r u' => wpY_crash (fun r' v' => r' = r ∧ i_Rel (k + 4) u' v') v) u := by
  obtain ⟨D, C, V, SN, U, G, c0, c1, c2, sy, an, so, sk, sb, xo, xk, xb, xd, xv, xc, yo, yk, yb, yd, yv, yc, ss, fp, rfl, rfl, h⟩ := I
  have h' : hr_S (k + 4) D C 0 SN U G c0 c1 c2 0 an so sk sb xo xk xb xd xv xc yo yk yb yd yv yc := by
    obtain ⟨w1, w2, w3, w4, w5, w6, w7, w8, w9, w10, w11, w12, w13, b1, hJ, hs, b4⟩ := h
    exact ⟨by omega, by omega, w3, w4, w5, w6, w7, w8, w9, w10, w11, w12, w13, b1, hp_J_mono hJ (Nat.le_refl D) (Nat.le_refl (D + 1)) (Nat.le_succ D) (fun z => absurd rfl z) (fun z => absurd rfl z.1), hs, b4⟩
  have hD : D < 900 := by have := h.1; omega
  obtain ⟨q1, q2, q3, q4⟩ := hr_undo hD h
  unfold wpX_crash
  dsimp only
  refine hx_undo (N := D + 1) (c0 := c0) (c2 := c2) (a := nI c1) (nI_1 D) q1 q2 q3 q4 h.2.2.2.2.2.2.2.2.1 h.2.2.2.2.2.2.2.2.2.1 ?_
  intro xc' e0 e1
  dsimp only
  unfold wpY_crash
  dsimp only
  unfold wpY_abort
  dsimp only
  refine hy_copy (P := 2) (Q := 0) (c := c2) (by omega) (by omega) (by omega) h.2.2.2.2.2.2.2.2.2.2.2.2.1 (by omega) ?_
  exact ⟨rfl, hr_mk (C := 0) (V := 0) (hr_abort hD h' xc' e0 e1)⟩
theorem hr_use {k D C V V' SN U G c0 c1 c2 : Nat} {sy an so sk sb : Int32} {xo xk xb xd xv xc yo yk yb yd yv yc : Nat → Int32}
    (h : hr_S k D C V SN U G c0 c1 c2 sy an so sk sb xo xk xb xd xv xc yo yk yb yd yv yc) (hV : V' < 2) : hr_S k D C V' SN U G c0 c1 c2 sy an so sk sb xo xk xb xd xv xc yo yk yb yd yv yc :=
  ⟨h.1, hV, h.2.2⟩
theorem i_vc_use {k : Nat} {u : SX} {v : SY} (I : i_Rel k u v) (hk : k + 4 ≤ 2048) (v1 : Int32) : wpX_use (fun r u' => wpY_use (fun r' v' => r' = r ∧ i_Rel (k + 4) u' v') v v1) u v1 := by
  obtain ⟨D, C, V, SN, U, G, c0, c1, c2, sy, an, so, sk, sb, xo, xk, xb, xd, xv, xc, yo, yk, yb, yd, yv, yc, ss, fp, rfl, rfl, h⟩ := I
  have h' := hr_up h
  unfold wpX_use
  dsimp only
  by_cases z0 : v1 = 0
  · subst z0
    refine br_t rfl ?_
    unfold wpY_use
    dsimp only
    exact br_f (by decide) (br_t (by decide) ⟨rfl, hr_mk (V := 0) (hr_use h' (by omega))⟩)
  · refine br_f z0 ?_
    by_cases z1 : v1 = 1
    · subst z1
      refine br_t rfl ?_
      unfold wpY_use
      dsimp only
      exact br_f (by decide) (br_t (by decide) ⟨rfl, hr_mk (V := 1) (hr_use h' (by omega))⟩)
    · refine br_f z1 ?_
      unfold wpY_use
      dsimp only
      refine br_c (fun _ => ⟨rfl, hr_mk h'⟩) (fun q1 => br_f (fun q2 => ?_) ⟨rfl, hr_mk h'⟩)
      have q1 := hb_ngt q1
      have q2 := hb_ge q2
      rw [hb_eq, hb_0] at z0
      rw [hb_eq] at z1
      rw [hb_0] at q1
      have e1 : (1 : Int32).toInt = 1 := by decide
      omega
theorem hr_c {k D C V SN U G c0 c1 c2 : Nat} {sy an so sk sb : Int32} {xo xk xb xd xv xc yo yk yb yd yv yc : Nat → Int32}
    (h : hr_S k D C V SN U G c0 c1 c2 sy an so sk sb xo xk xb xd xv xc yo yk yb yd yv yc) : ∃ c, xc V = nI c ∧ yc V = nI c ∧ c ≤ 100 ∧ hp_Dj (100 * V) c yo yk yb yd ∧ (V = 0 → c = c0) ∧ (V = 1 → c = c1) := by
  obtain ⟨w1, w2, w3, w4, w5, w6, w7, w8, w9, w10, w11, w12, w13, b1, ⟨a1, a2, a3, a4, a5, a6, a7, a8, a9, a10, a11⟩, b2⟩ := h
  match V, w2 with
  | 0, _ => exact ⟨c0, w9, w11, a1, a9, fun _ => rfl, fun z => absurd z (by decide)⟩
  | 1, _ => exact ⟨c1, w10, w12, a2, a10, fun z => absurd z (by decide), fun _ => rfl⟩
theorem i_vc_has {k : Nat} {u : SX} {v : SY} (I : i_Rel k u v) (hk : k + 4 ≤ 2048) (v1 : Int32) (v2 : Int32) (v3 : Int32) : wpX_has (fun r => wpY_has (fun r' => r' = r ∧ i_Rel (k + 4) u v) v v1 v2 v3) u v1 v2 v3 := by
  obtain ⟨D, C, V, SN, U, G, c0, c1, c2, sy, an, so, sk, sb, xo, xk, xb, xd, xv, xc, yo, yk, yb, yd, yv, yc, ss, fp, rfl, rfl, h⟩ := I
  have h' := hr_up h
  obtain ⟨c, e1, e2, hc, hDj, _, _⟩ := hr_c h
  obtain ⟨w1, w2, w3, w4, w5, w6, w7, w8, w9, w10, w11, w12, w13, hI⟩ := h
  unfold wpX_has
  dsimp only
  refine hx_seen w2 e1 hc _ _ _ ?_
  rw [hw_pv w2 hc w4 w5 w6 w7]
  cases hr : hb_sc (hb_pv yo yk yb yd v1 v2 v3) c (100 * V) with
  | none =>
    refine br_t rfl ?_
    unfold wpY_has
    dsimp only
    refine hy_seen (by omega) e2 hc _ _ _ ?_
    rw [hr]
    exact br_t hb_mn ⟨rfl, hr_mk h'⟩
  | some e =>
    have he := hb_sc_some hr
    refine br_f (hb_n1 (by omega)) ?_
    unfold wpY_has
    dsimp only
    refine hy_seen (by omega) e2 hc _ _ _ ?_
    rw [hr]
    exact br_f (hb_nn (by omega)) ⟨rfl, hr_mk h'⟩
theorem i_vc_read {k : Nat} {u : SX} {v : SY} (I : i_Rel k u v) (hk : k + 4 ≤ 2048) (v1 : Int32) (v2 : Int32) (v3 : Int32) : wpX_read (fun r => wpY_read (fun r' => r' = r ∧ i_Rel (k + 4) u v) v v1 v2 v3) u v1 v2 v3 := by
  obtain ⟨D, C, V, SN, U, G, c0, c1, c2, sy, an, so, sk, sb, xo, xk, xb, xd, xv, xc, yo, yk, yb, yd, yv, yc, ss, fp, rfl, rfl, h⟩ := I
  have h' := hr_up h
  obtain ⟨c, e1, e2, hc, hDj, _, _⟩ := hr_c h
  obtain ⟨w1, w2, w3, w4, w5, w6, w7, w8, w9, w10, w11, w12, w13, hI⟩ := h
  unfold wpX_read
  dsimp only
  refine hx_seen w2 e1 hc _ _ _ ?_
  rw [hw_pv w2 hc w4 w5 w6 w7]
  cases hr : hb_sc (hb_pv yo yk yb yd v1 v2 v3) c (100 * V) with
  | none =>
    refine br_t rfl ?_
    unfold wpY_read
    dsimp only
    refine hy_seen (by omega) e2 hc _ _ _ ?_
    rw [hr]
    exact br_f hb_mp ⟨rfl, hr_mk h'⟩
  | some e =>
    have he := hb_sc_some hr
    refine br_f (hb_n1 (by omega)) ⟨vp_in_nI (by omega) (by omega), ?_⟩
    unfold wpY_read
    dsimp only
    refine hy_seen (by omega) e2 hc _ _ _ ?_
    rw [hr]
    refine br_t (hb_np (by omega)) ⟨vp_in_nI (by omega) (by omega), ?_, hr_mk h'⟩
    rw [show hb_o (some e) = nI e from rfl, hb_cl (j := e) (by omega)]
    exact (w8 e (by omega)).symm
theorem hw_next {c V : Nat} (hV : V < 2) {xo xk xb xd yo yk yb yd : Nat → Int32} (hc : c ≤ 100) (h1 : hb_Ag xo yo) (h2 : hb_Ag xk yk) (h3 : hb_Ag xb yb) (h4 : hb_Ag xd yd) (hD : hp_Dj (100 * V) c yo yk yb yd) (x y t : Int32) :
    hb_bs (hb_pn xo xk xb xd x y t) (hb_lX xo xk) c (100 * V) none = hb_bs (hb_pn yo yk yb yd x y t) (hb_lY yo yk) c (100 * V) none := by
  have hp : ∀ l, 100 * V ≤ l → l < 100 * V + c → hb_pn xo xk xb xd x y t l = hb_pn yo yk yb yd x y t l := by
    intro l g1 g2
    unfold hb_pn hb_vis hb_Pk
    rw [h1 l (by omega), h2 l (by omega), h3 l (by omega), h4 l (by omega)]
  refine hb_bs_congr (s := 100 * V) (e := 100 * V + c) hp ?_ c (100 * V) none (by omega) (by omega) (fun i hi => by cases hi)
  intro i j g1 g2 g3 p1 p2
  rw [hp i g1 (by omega)] at p1
  rw [hp j (by omega) g3] at p2
  have p1 := ((hb_bi _).mp p1).1
  have p2 := ((hb_bi _).mp p2).1
  unfold hb_vis at p1 p2
  rw [decide_eq_true_iff, hb_lt, hb_eq, hb_0, hb_le] at p1
  rw [decide_eq_true_iff, hb_lt, hb_eq, hb_0, hb_le] at p2
  have r1 := hD i j g1 (by omega) (by omega) g3 (by omega)
  have r2 := hD j i (by omega) g3 g1 (by omega) (by omega)
  unfold hb_lX hb_lY
  refine hb_bc ?_
  unfold hb_Pk
  rw [h1 i (by omega), h2 i (by omega), h1 j (by omega), h2 j (by omega)]
  rw [hb_eq (yo i), hb_eq (yk i)] at r1
  rw [hb_eq (yo j), hb_eq (yk j)] at r2
  rw [hb_lt, hb_lt, hb_le, hb_le, hb_eq (yo j)]
  omega
theorem i_vc_next {k : Nat} {u : SX} {v : SY} (I : i_Rel k u v) (hk : k + 4 ≤ 2048) (v1 : Int32) (v2 : Int32) (v3 : Int32) : wpX_next (fun r u' => wpY_next (fun r' v' => r' = r ∧ i_Rel (k + 4) u' v') v v1 v2 v3) u v1 v2 v3 := by
  obtain ⟨D, C, V, SN, U, G, c0, c1, c2, sy, an, so, sk, sb, xo, xk, xb, xd, xv, xc, yo, yk, yb, yd, yv, yc, ss, fp, rfl, rfl, h⟩ := I
  have h' := hr_up h
  obtain ⟨c, e1, e2, hc, hDj, _, _⟩ := hr_c h
  obtain ⟨w1, w2, w3, w4, w5, w6, w7, w8, w9, w10, w11, w12, w13, hI⟩ := h
  have he := hw_next w2 hc w4 w5 w6 w7 hDj v1 v2 v3
  refine hx_next rfl w2 e1 hc _ _ _ (fun hr => ?_) (fun i hi hr => ?_)
  · rw [he] at hr
    refine hy_next rfl (by omega) e2 hc _ _ _ (fun _ => ⟨rfl, hr_mk h'⟩) (fun j _ hj => ?_)
    rw [hr] at hj; cases hj
  · rw [he] at hr
    refine hy_next rfl (by omega) e2 hc _ _ _ (fun hj => ?_) (fun j _ hj => ?_)
    · rw [hr] at hj; cases hj
    · rw [hr] at hj; cases hj
      refine ⟨rfl, ?_⟩
      rw [w4 i hi, w5 i hi, w6 i hi, w8 i hi]
      exact hr_mk h'
theorem i_vc_found {k : Nat} {u : SX} {v : SY} (I : i_Rel k u v) (hk : k + 4 ≤ 2048) (v1 : Int32) : wpX_found (fun r => wpY_found (fun r' => r' = r ∧ i_Rel (k + 4) u v) v v1) u v1 := by
  obtain ⟨D, C, V, SN, U, G, c0, c1, c2, sy, an, so, sk, sb, xo, xk, xb, xd, xv, xc, yo, yk, yb, yd, yv, yc, ss, fp, rfl, rfl, h⟩ := I
  have h' := hr_up h
  unfold wpX_found
  dsimp only
  have e3 : (3 : Int32).toInt = 3 := by decide
  have e4 : (4 : Int32).toInt = 4 := by decide
  by_cases z0 : v1 < 0
  · refine br_t z0 ?_
    unfold wpY_found
    dsimp only
    exact br_t z0 ⟨rfl, hr_mk h'⟩
  · refine br_f z0 ?_
    have q0 := hb_ngt z0
    rw [hb_0] at q0
    by_cases z1 : v1 < 4
    · have q1 := hb_gt z1
      have hv : vp_in v1 4 := vp_in_iff.mpr (by omega)
      refine br_t z1 ⟨hv, ?_⟩
      unfold wpY_found
      dsimp only
      exact br_f z0 (br_t ((hb_le _ _).mpr (by omega)) ⟨hv, rfl, hr_mk h'⟩)
    · have q1 := hb_ngt z1
      refine br_f z1 ?_
      unfold wpY_found
      dsimp only
      exact br_f z0 (br_f (fun z => by have := hb_ge z; omega) ⟨rfl, hr_mk h'⟩)
theorem i_vc_synced {k : Nat} {u : SX} {v : SY} (I : i_Rel k u v) (hk : k + 4 ≤ 2048) : wpX_synced (fun r => wpY_synced (fun r' => r' = r ∧ i_Rel (k + 4) u v) v) u := by
  obtain ⟨D, C, V, SN, U, G, c0, c1, c2, sy, an, so, sk, sb, xo, xk, xb, xd, xv, xc, yo, yk, yb, yd, yv, yc, ss, fp, rfl, rfl, h⟩ := I
  have h' := hr_up h
  unfold wpX_synced wpY_synced
  dsimp only
  exact br_c (fun z => br_t z ⟨rfl, hr_mk h'⟩) (fun z => br_f z ⟨rfl, hr_mk h'⟩)
theorem i_vc_size {k : Nat} {u : SX} {v : SY} (I : i_Rel k u v) (hk : k + 4 ≤ 2048) : wpX_size (fun r => wpY_size (fun r' => r' = r ∧ i_Rel (k + 4) u v) v) u := by
  obtain ⟨D, C, V, SN, U, G, c0, c1, c2, sy, an, so, sk, sb, xo, xk, xb, xd, xv, xc, yo, yk, yb, yd, yv, yc, ss, fp, rfl, rfl, h⟩ := I
  have h' := hr_up h
  obtain ⟨c, e1, e2, hc, hDj, _, _⟩ := hr_c h
  have hV := h.2.1
  unfold wpX_size wpY_size
  dsimp only
  rw [hb_cl (j := V) (by omega)]
  exact ⟨vp_in_nI hV (by omega), vp_in_nI (by omega) (by omega), e2.trans e1.symm, hr_mk h'⟩
theorem i_vc_done {k : Nat} {u : SX} {v : SY} (I : i_Rel k u v) (hk : k + 4 ≤ 2048) : wpX_done (fun r => wpY_done (fun r' => r' = r ∧ i_Rel (k + 4) u v) v) u := by
  obtain ⟨D, C, V, SN, U, G, c0, c1, c2, sy, an, so, sk, sb, xo, xk, xb, xd, xv, xc, yo, yk, yb, yd, yv, yc, ss, fp, rfl, rfl, h⟩ := I
  exact ⟨rfl, hr_mk (hr_up h)⟩
end
section
theorem hx_snapL {S : Nat} (hS : S ≤ 4) (x : Int32) {ld ch av mu sy sg an so sk sb : Int32} {xo xk xb xd xv xc ss fp : Nat → Int32} (post : Int32 → SX → Prop) :
    ∀ d i, i + d = S →
    (hb_sc (fun l => decide (ss l = x)) d i = none → S < 4 → post 1 (ld, ch, av, (nI (S + 1)), mu, sy, sg, an, so, sk, sb, xo, xk, xb, xd, xv, xc, (upd ss S x), fp)) →
    (hb_sc (fun l => decide (ss l = x)) d i = none → S = 4 → post 0 (ld, ch, av, (nI S), mu, sy, sg, an, so, sk, sb, xo, xk, xb, xd, xv, xc, ss, fp)) →
    (∀ e, hb_sc (fun l => decide (ss l = x)) d i = some e → post 1 (ld, ch, av, (nI (S - 1)), mu, sy, sg, an, so, sk, sb, xo, xk, xb, xd, xv, xc, (upd ss e (ss (S - 1))), fp)) →
    wX_snapshot_16 post x ld ch av (nI S) mu sy sg an so sk sb xo xk xb xd xv xc ss fp (d + 1) (nI i) := by
  intro d
  induction d with
  | zero =>
    intro i hi h1 h2 h3
    refine br_t (nI_le (by omega) (by omega)) ?_
    by_cases z : S < 4
    · refine br_t (nI_lt (b := 4) z (by omega)) ⟨vp_in_nI z (by omega), ?_⟩
      rw [hb_cl (by omega)]
      exact nm_e (nm_r (nI_1 S) (h1 rfl z))
    · exact br_f (nI_nlt (b := 4) (by omega) (by omega)) (h2 rfl (by omega))
  | succ d ih =>
    intro i hi h1 h2 h3
    have hv : vp_in (nI i) 4 := vp_in_nI (by omega) (by omega)
    refine br_f (nI_ge (by omega) (by omega)) ⟨hv, ?_⟩
    rw [hb_cl (j := i) (by omega)]
    by_cases z : ss i = x
    · rw [hb_sc_t (p := fun l => decide (ss l = x)) (decide_eq_true z)] at h3
      refine br_t z (nm_r (e' := nI (S - 1)) ?_ ⟨vp_in_nI (by omega) (by omega), hv, ?_⟩)
      · rw [show nI S = nI (S - 1 + 1) from by rw [show S - 1 + 1 = S from by omega], hb_dec]
      rw [hb_cl (j := S - 1) (by omega)]
      exact nm_e (h3 i rfl)
    · have zf : ¬ (fun l => decide (ss l = x)) i = true := fun y => z (of_decide_eq_true y)
      rw [hb_sc_f zf] at h1 h2 h3
      exact br_f z (nm_r (nI_1 i) (ih (i + 1) (by omega) h1 h2 h3))
theorem hy_snapL {S : Nat} (hS : S ≤ 4) (x : Int32) {ld ch av mu sy sg an so sk sb : Int32} {yo yk yb yd yv yc ss fp : Nat → Int32} (post : Int32 → SY → Prop) :
    ∀ d i, i + d = S →
    (hb_sc (fun l => decide (ss l = x)) d i = none → S < 4 → post 1 (ld, ch, av, (nI (S + 1)), mu, sy, sg, an, so, sk, sb, yo, yk, yb, yd, yv, yc, (upd ss S x), fp)) →
    (hb_sc (fun l => decide (ss l = x)) d i = none → S = 4 → post 0 (ld, ch, av, (nI S), mu, sy, sg, an, so, sk, sb, yo, yk, yb, yd, yv, yc, ss, fp)) →
    (∀ e, hb_sc (fun l => decide (ss l = x)) d i = some e → post 1 (ld, ch, av, (nI (S - 1)), mu, sy, sg, an, so, sk, sb, yo, yk, yb, yd, yv, yc, (upd ss e (ss (S - 1))), fp)) →
    wY_snapshot_16 post x ld ch av (nI S) mu sy sg an so sk sb yo yk yb yd yv yc ss fp (d + 1) (nI i) := by
  intro d
  induction d with
  | zero =>
    intro i hi h1 h2 h3
    refine br_t (nI_le (by omega) (by omega)) ?_
    by_cases z : S < 4
    · refine br_f (fun y => ?_) ?_
      · rw [show (4 : Int32) = nI 4 from rfl, nI_eq (by omega) (by omega)] at y
        omega
      refine nm_r (nI_1 S) ⟨vp_in_nI z (by omega), ?_⟩
      rw [hb_cl (by omega)]
      exact nm_e (h1 rfl z)
    · exact br_t (by rw [show S = 4 from by omega]; rfl) (h2 rfl (by omega))
  | succ d ih =>
    intro i hi h1 h2 h3
    have hv : vp_in (nI i) 4 := vp_in_nI (by omega) (by omega)
    refine br_f (nI_ge (by omega) (by omega)) ⟨hv, ?_⟩
    rw [hb_cl (j := i) (by omega)]
    have eS : nI S - 1 = nI (S - 1) := by
      rw [show nI S = nI (S - 1 + 1) from by rw [show S - 1 + 1 = S from by omega], hb_dec]
    by_cases z : ss i = x
    · rw [hb_sc_t (p := fun l => decide (ss l = x)) (decide_eq_true z)] at h3
      rw [eS]
      refine br_t z (nm_e ⟨vp_in_nI (by omega) (by omega), hv, ?_⟩)
      rw [hb_cl (j := S - 1) (by omega)]
      exact nm_e (h3 i rfl)
    · have zf : ¬ (fun l => decide (ss l = x)) i = true := fun y => z (of_decide_eq_true y)
      rw [hb_sc_f zf] at h1 h2 h3
      exact br_f z (nm_r (nI_1 i) (ih (i + 1) (by omega) h1 h2 h3))
theorem hr_sn {k D C V SN SN' U G c0 c1 c2 : Nat} {sy an so sk sb : Int32} {xo xk xb xd xv xc yo yk yb yd yv yc : Nat → Int32}
    (h : hr_S k D C V SN U G c0 c1 c2 sy an so sk sb xo xk xb xd xv xc yo yk yb yd yv yc) (hS : SN' ≤ 4) : hr_S k D C V SN' U G c0 c1 c2 sy an so sk sb xo xk xb xd xv xc yo yk yb yd yv yc :=
  ⟨h.1, h.2.1, hS, h.2.2.2⟩
theorem i_vc_snapshot {k : Nat} {u : SX} {v : SY} (I : i_Rel k u v) (hk : k + 4 ≤ 2048) (v1 : Int32) : wpX_snapshot (fun r u' => wpY_snapshot (fun r' v' => r' = r ∧ i_Rel (k + 4) u' v') v v1) u v1 := by
  obtain ⟨D, C, V, SN, U, G, c0, c1, c2, sy, an, so, sk, sb, xo, xk, xb, xd, xv, xc, yo, yk, yb, yd, yv, yc, ss, fp, rfl, rfl, h⟩ := I
  have h' := hr_up h
  have hS := h.2.2.1
  unfold wpX_snapshot
  dsimp only
  by_cases z0 : v1 < 0
  · refine br_t z0 ?_
    unfold wpY_snapshot
    dsimp only
    exact br_t z0 ⟨rfl, hr_mk h'⟩
  · refine br_f z0 ?_
    by_cases z1 : v1 ≤ nI D
    · refine br_t z1 ⟨SN + 1, ?_⟩
      refine hx_snapL hS v1 _ SN 0 (by omega) (fun q1 q2 => ?_) (fun q1 q2 => ?_) (fun e q1 => ?_)
      · unfold wpY_snapshot
        dsimp only
        refine br_f z0 (br_t z1 ⟨SN + 1, hy_snapL hS v1 _ SN 0 (by omega) (fun _ _ => ⟨rfl, hr_mk (hr_sn h' (by omega))⟩) (fun _ p2 => by omega) (fun e p1 => ?_)⟩)
        rw [q1] at p1; cases p1
      · unfold wpY_snapshot
        dsimp only
        refine br_f z0 (br_t z1 ⟨SN + 1, hy_snapL hS v1 _ SN 0 (by omega) (fun _ p2 => by omega) (fun _ p2 => ⟨rfl, hr_mk h'⟩) (fun e p1 => ?_)⟩)
        rw [q1] at p1; cases p1
      · unfold wpY_snapshot
        dsimp only
        refine br_f z0 (br_t z1 ⟨SN + 1, hy_snapL hS v1 _ SN 0 (by omega) (fun p1 _ => ?_) (fun p1 _ => ?_) (fun e' p1 => ?_)⟩)
        · rw [q1] at p1; cases p1
        · rw [q1] at p1; cases p1
        · rw [q1] at p1; cases p1
          exact ⟨rfl, hr_mk (hr_sn h' (by omega))⟩
    · refine br_f z1 ?_
      unfold wpY_snapshot
      dsimp only
      exact br_f z0 (br_f z1 ⟨rfl, hr_mk h'⟩)
theorem hr_prune {k D V SN U G L c0 c1 c2 c' n0 : Nat} {sy an so sk sb : Int32} {xo xk xb xd xv xc yo yk yb yd yv yc xo' xk' xb' xd' xv' xc' yo' yk' yb' yd' yv' yc' : Nat → Int32}
    (h : hr_S k D 0 V SN U G c0 c1 c2 sy an so sk sb xo xk xb xd xv xc yo yk yb yd yv yc) (h0 : V = 0 → n0 = c0 ∧ L = U) (h1 : V = 1 → n0 = c1)
    (g : hl_R (fun _ d => d.toInt ≠ 0 ∧ d.toInt ≤ (L : Int)) V n0 c' xc yc yo yk yb yd xo' xk' xb' xd' xv' xc' yo' yk' yb' yd' yv' yc') :
    ∃ e e1 : Nat, e ≤ 100 ∧ yc' 0 = nI e ∧ hr_S k D 0 V SN U G e e1 e sy an so sk sb xo' xk' xb' xd' xv' xc' (hb_cp 0 200 e yo') (hb_cp 0 200 e yk') (hb_cp 0 200 e yb') (hb_cp 0 200 e yd') (hb_cp 0 200 e yv') (upd yc' 2 (nI e)) := by
  obtain ⟨w1, w2, w3, w4, w5, w6, w7, w8, w9, w10, w11, w12, w13, hI⟩ := h
  obtain ⟨a1, a2, a3, a4, a5, a6, a7, a8, a9, a10, a11⟩ := g
  have hJ := hp_low hI
  match V, w2 with
  | 0, _ =>
    obtain ⟨e0, e1⟩ := h0 rfl
    subst e0 e1
    have hJ2 := hp_sub0 hJ a11 (fun i hi hq => Or.inr hq)
    exact ⟨c', c1, a10, a7, w1, by omega, w3, hb_Ag_cp a1, hb_Ag_cp a2, hb_Ag_cp a3, hb_Ag_cp a4, hb_Ag_cp a5, a6, (a8 1 (by omega)).trans w10, by rw [pk_un (by omega)]; exact a7, by rw [pk_un (by omega)]; exact (a9 1 (by omega)).trans w12, pk_us, hp_fin hJ2⟩
  | 1, _ =>
    have e0 := h1 rfl
    subst e0
    have hJ2 := hp_sub1 hJ a11
    have y0 := (a9 0 (by omega)).trans w11
    exact ⟨c0, c', hJ.1, y0, w1, by omega, w3, hb_Ag_cp a1, hb_Ag_cp a2, hb_Ag_cp a3, hb_Ag_cp a4, hb_Ag_cp a5, (a8 0 (by omega)).trans w9, a6, by rw [pk_un (by omega)]; exact y0, by rw [pk_un (by omega)]; exact a7, pk_us, hp_fin hJ2⟩
theorem hw_prune {k D V SN U G L c0 c1 c2 c : Nat} {sy an so sk sb : Int32} {xo xk xb xd xv xc yo yk yb yd yv yc ss fp : Nat → Int32} (hk : k ≤ 2048)
    (h : hr_S k D 0 V SN U G c0 c1 c2 sy an so sk sb xo xk xb xd xv xc yo yk yb yd yv yc) (e1 : xc V = nI c) (e2 : yc V = nI c) (hc : c ≤ 100)
    (h0 : V = 0 → c = c0 ∧ L = U) (h1 : V = 1 → c = c1 ∧ L = D) :
    wX_prune_27 (fun r u' => wpY_prune (fun r' v' => r' = r ∧ i_Rel k u' v') ((nI D), (nI 0), (nI V), (nI SN), (nI U), sy, (nI G), an, so, sk, sb, yo, yk, yb, yd, yv, yc, ss, fp)) (nI L) (nI D) (nI 0) (nI V) (nI SN) (nI U) sy (nI G) an so sk sb xo xk xb xd xv xc ss fp := by
  have hV := h.2.1
  have hUD := h.2.2.2.2.2.2.2.2.2.2.2.2.2.2.1.2.2.1
  have hD := h.1
  obtain ⟨c', t', xo', xk', xb', xd', xv', xc', yo', yk', yb', yd', yv', yc', g1, g2, g3⟩ := hl_prune (D := D) (U := U) (L := L) (V := V) (S := SN) (n0 := c) hV h.2.2.1 (by omega) hUD (fun z => (h0 z).2) (fun z => (h1 z).2) (ch := nI 0) (sy := sy) (sg := nI G) (an := an) (so := so) (sk := sk) (sb := sb) (ss := ss) (fp := fp)
    (xc0 := xc) (yc0 := yc) (o0 := yo) (k0 := yk) (b0 := yb) (d0 := yd) c c 0 xo xk xb xd xv xc yo yk yb yd yv yc (Nat.le_refl c) ⟨h.2.2.2.1, h.2.2.2.2.1, h.2.2.2.2.2.1, h.2.2.2.2.2.2.1, h.2.2.2.2.2.2.2.1, e1, e2, fun _ _ => rfl, fun _ _ => rfl, hc, hp_Sq_0 _ _ _ _ _ _ _⟩
  obtain ⟨e, e', q1, q2, q3⟩ := hr_prune h h0 (fun z => (h1 z).1) g1
  unfold wX_prune_27
  refine hx_first hV ?_
  refine hx_end hV e1 ?_
  refine nm_r (e' := nI (100 * V + c) + (-1)) (by rw [Int32.sub_eq_add_neg]) ?_
  refine ⟨c + 1, g2 _ ?_⟩
  unfold wpY_prune
  dsimp only
  refine br_t (by decide) ⟨vp_in_nI (by omega) (by omega), ?_⟩
  refine nm_r (e' := nI (100 * V + c) + (-1)) (by rw [hb_cl (j := V) (by omega), e2, hy_100, nI_add, Int32.sub_eq_add_neg]) ?_
  exact ⟨c + 1, g3 _ e q1 q2 ⟨rfl, hr_mk (C := 0) q3⟩⟩
theorem i_vc_prune {k : Nat} {u : SX} {v : SY} (I : i_Rel k u v) (hk : k + 4 ≤ 2048) : wpX_prune (fun r u' => wpY_prune (fun r' v' => r' = r ∧ i_Rel (k + 4) u' v') v) u := by
  obtain ⟨D, C, V, SN, U, G, c0, c1, c2, sy, an, so, sk, sb, xo, xk, xb, xd, xv, xc, yo, yk, yb, yd, yv, yc, ss, fp, rfl, rfl, h⟩ := I
  have h' := hr_up h
  obtain ⟨c, e1, e2, hc, hDj, f0, f1⟩ := hr_c h
  have hV := h.2.1
  have hC : C ≤ 40 := h.2.2.2.2.2.2.2.2.2.2.2.2.2.1
  unfold wpX_prune
  dsimp only
  by_cases z : C = 0
  · subst z
    refine br_t (by decide) ?_
    match V, hV, e1, e2, f0, f1, h' with
    | 0, _, e1, e2, f0, f1, h' => exact br_t nI_0 (hw_prune hk h' e1 e2 hc (fun _ => ⟨f0 rfl, rfl⟩) (fun y => absurd y (by decide)))
    | 1, _, e1, e2, f0, f1, h' => exact br_f (by decide) (hw_prune hk h' e1 e2 hc (fun y => absurd y (by decide)) (fun _ => ⟨f1 rfl, rfl⟩))
  · have hn : ¬ nI C ≤ 0 := nI_nle (by omega) (by omega)
    refine br_f hn ?_
    unfold wpY_prune
    dsimp only
    exact br_f hn ⟨rfl, hr_mk h'⟩
theorem hw_sync {k n D C V SN U G c0 c1 c2 : Nat} {sy an so sk sb : Int32} {xo xk xb xd xv xc yo yk yb yd yv yc ss fp : Nat → Int32} (hn : n ≤ 50) (hk : k ≤ 2048) (hsy : sy ≠ 0)
    (h : hr_S k D C V SN U G c0 c1 c2 sy an so sk sb xo xk xb xd xv xc yo yk yb yd yv yc) :
    ∃ (r : Int32) (u' : SX) (v' : SY), i_Rel k u' v' ∧
      (∀ post : Int32 → SX → Prop, post r u' → wX_sync_51 post (nI n) (nI D) (nI C) (nI V) (nI SN) (nI U) sy (nI G) an so sk sb xo xk xb xd xv xc ss fp) ∧
      (∀ post : Int32 → SY → Prop, post r v' → wY_sync_56 post (nI n) (nI D) (nI C) (nI V) (nI SN) (nI U) sy (nI G) an so sk sb yo yk yb yd yv yc ss fp) := by
  have hD : D < 1000 := by have := h.1; omega
  obtain ⟨r, u', v', g1, g2, g3⟩ := hl_sync (ss := ss) (fp := fp) hn hD hsy n 0 c1 an so sk sb xo xk xb xd xv xc yo yk yb yd yv yc (by omega) h
  obtain ⟨w1, w2, w3, w4, w5, w6, w7, w8, w9, w10, w11, w12, w13, hI⟩ := h
  have hJ := hI.2.1
  have hUD := hJ.2.2.1
  have hGD := hJ.2.2.2.1
  have hUG := (hJ.2.2.2.2.2.1 hsy).1
  refine ⟨r, u', v', g1, fun post hp => ?_, fun post hp => ?_⟩
  · unfold wX_sync_51
    refine hx_send (c := c0) (by omega) (by omega) hUG w9 hJ.1 ?_
    rw [hs_Ag hJ.1 w4 w5 w6 w7 hJ.2.2.2.2.2.2.2.2.1]
    exact ⟨n + 1, g2 post hp⟩
  · unfold wY_sync_56
    refine hy_send (c := c0) (by omega) (by omega) w11 hJ.1 ?_
    exact ⟨n + 1, g3 post hp⟩
theorem i_vc_sync {k : Nat} {u : SX} {v : SY} (I : i_Rel k u v) (hk : k + 4 ≤ 2048) (v1 : Int32) : wpX_sync (fun r u' => wpY_sync (fun r' v' => r' = r ∧ i_Rel (k + 4) u' v') v v1) u v1 := by
  obtain ⟨D, C, V, SN, U, G, c0, c1, c2, sy, an, so, sk, sb, xo, xk, xb, xd, xv, xc, yo, yk, yb, yd, yv, yc, ss, fp, rfl, rfl, h⟩ := I
  have h' := hr_up h
  have hI := h'.2.2.2.2.2.2.2.2.2.2.2.2.2
  have hJ := hI.2.1
  have hUD := hJ.2.2.1
  have hD := h.1
  have e1 : (1 : Int32).toInt = 1 := by decide
  have e50 : (50 : Int32).toInt = 50 := by decide
  unfold wpX_sync
  dsimp only
  by_cases z0 : v1 < 1
  · refine br_t z0 ?_
    unfold wpY_sync
    dsimp only
    exact br_t z0 ⟨rfl, hr_mk h'⟩
  · refine br_f z0 ?_
    have q0 := hb_ngt z0
    by_cases z1 : v1 ≤ 50
    · refine br_t z1 ?_
      have q1 := hb_ge z1
      have y1 : ¬ (50 : Int32) < v1 := fun y => by have := hb_gt y; omega
      obtain ⟨n, hn, rfl⟩ : ∃ n : Nat, n ≤ 50 ∧ v1 = nI n := by
        obtain ⟨j, hj, e⟩ := nI_of (x := v1) (fun y => by have := hb_gt y; rw [hb_0] at this; omega)
        rw [e, nI_toInt hj, e50] at q1
        exact ⟨j, by omega, e⟩
      by_cases z2 : sy = 0
      · refine br_t z2 ?_
        by_cases z3 : U < D
        · refine br_t (nI_lt z3 (by omega)) ?_
          have h2 : hr_S (k + 4) D C V SN U D c0 c1 c2 1 0 so sk sb xo xk xb xd xv xc yo yk yb yd yv yc := by
            obtain ⟨w1, w2, w3, w4, w5, w6, w7, w8, w9, w10, w11, w12, w13, hI⟩ := h'
            exact ⟨w1, w2, w3, w4, w5, w6, w7, w8, w9, w10, w11, w12, w13, hp_keep hI (hp_start hJ (fun y => y.2 rfl)) (fun _ _ => rfl) (fun _ _ => rfl) (fun _ _ => rfl) (fun _ _ => rfl) (fun _ _ => rfl)⟩
          obtain ⟨r, u', v', g1, g2, g3⟩ := hw_sync (ss := ss) (fp := fp) hn hk (by decide) h2
          refine g2 _ ?_
          unfold wpY_sync
          dsimp only
          refine br_f z0 (br_f y1 (br_t z2 (br_f (fun y => ?_) ?_)))
          · rw [nI_eq (by omega) (by omega)] at y
            omega
          unfold wY_sync_31
          exact br_t z2 (g3 _ ⟨rfl, g1⟩)
        · refine br_f (nI_nlt (by omega) (by omega)) ?_
          unfold wpY_sync
          dsimp only
          exact br_f z0 (br_f y1 (br_t z2 (br_t (by rw [show U = D from by omega]) ⟨rfl, hr_mk h'⟩)))
      · refine br_f z2 ?_
        obtain ⟨r, u', v', g1, g2, g3⟩ := hw_sync (ss := ss) (fp := fp) hn hk z2 h'
        refine g2 _ ?_
        unfold wpY_sync
        dsimp only
        refine br_f z0 (br_f y1 (br_f z2 ?_))
        unfold wY_sync_31
        exact br_f z2 (g3 _ ⟨rfl, g1⟩)
    · refine br_f z1 ?_
      have q1 := hb_nge z1
      unfold wpY_sync
      dsimp only
      exact br_f z0 (br_t ((hb_lt _ _).mpr q1) ⟨rfl, hr_mk h'⟩)
end
