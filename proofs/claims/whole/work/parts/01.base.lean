theorem pk_us {f : Nat → Int32} {k : Nat} {x : Int32} : upd f k x k = x := if_pos rfl
theorem pk_un {f : Nat → Int32} {k j : Nat} {x : Int32} (h : j ≠ k) : upd f k x j = f j := if_neg h
theorem pk_sub {a b : Nat} (h : b ≤ a) : nI a - nI b = nI (a - b) := by
  obtain ⟨c, rfl⟩ : ∃ c, a = c + b := ⟨a - b, by omega⟩
  rw [← nI_add, Int32.add_sub_cancel, Nat.add_sub_cancel]
theorem pk_m1 (n : Nat) : nI (n + 1) + (-1) = nI n := by
  rw [← nI_1, Int32.add_assoc, show (1 : Int32) + (-1) = 0 from rfl, Int32.add_zero]
theorem pk_mul (a b : Nat) : nI a * nI b = nI (a * b) := (Int32.ofNat_mul a b).symm
theorem hb_le (x y : Int32) : x ≤ y ↔ x.toInt ≤ y.toInt := Int32.le_iff_toInt_le
theorem hb_lt (x y : Int32) : x < y ↔ x.toInt < y.toInt := Int32.lt_iff_toInt_lt
theorem hb_eq (x y : Int32) : x = y ↔ x.toInt = y.toInt := Int32.toInt_inj.symm
theorem hb_0 : (0 : Int32).toInt = 0 := by decide
theorem hb_m1 : (-1 : Int32).toInt = -1 := by decide
theorem hb_n1 {j : Nat} (h : j < 1000) : ¬ nI j = -1 := by
  rw [hb_eq, nI_toInt (by omega), hb_m1]; omega
theorem hb_nn {j : Nat} (h : j < 1000) : ¬ nI j < 0 := nI_pos (by omega)
theorem hb_np {j : Nat} (h : j < 1000) : 0 ≤ nI j := nI_pos' (by omega)
theorem hb_mn : (-1 : Int32) < 0 := by decide
theorem hb_mp : ¬ 0 ≤ (-1 : Int32) := by decide
theorem hb_cl {j : Nat} (h : j < 1000) : (nI j).toNatClampNeg = j := nI_clamp (by omega)
theorem hb_dec (j : Nat) : nI (j + 1) - 1 = nI j := nI_pred j
theorem hb_neg1 : nI 0 + (-1) = -1 := by decide
theorem hb_neg2 : nI 0 - 1 = -1 := by decide
def hb_o : Option Nat → Int32
  | none => -1
  | some j => nI j
def hb_sc (p : Nat → Bool) : Nat → Nat → Option Nat
  | 0, _ => none
  | d + 1, j => if p j = true then some j else hb_sc p d (j + 1)
theorem hb_sc_t {p : Nat → Bool} {d j : Nat} (h : p j = true) : hb_sc p (d + 1) j = some j := by
  rw [hb_sc, if_pos h]
theorem hb_sc_f {p : Nat → Bool} {d j : Nat} (h : ¬ p j = true) : hb_sc p (d + 1) j = hb_sc p d (j + 1) := by
  rw [hb_sc, if_neg h]
theorem hb_sc_some {p : Nat → Bool} : ∀ {d j i : Nat}, hb_sc p d j = some i → j ≤ i ∧ i < j + d ∧ p i = true ∧ ∀ l, j ≤ l → l < i → ¬ p l = true := by
  intro d
  induction d with
  | zero => intro j i h; cases h
  | succ d ih =>
    intro j i h
    by_cases hp : p j = true
    · rw [hb_sc_t hp] at h
      cases h
      exact ⟨by omega, by omega, hp, fun l h1 h2 => by omega⟩
    · rw [hb_sc_f hp] at h
      obtain ⟨h1, h2, h3, h4⟩ := ih h
      refine ⟨by omega, by omega, h3, fun l hl hl2 => ?_⟩
      by_cases e : l = j
      · rw [e]; exact hp
      · exact h4 l (by omega) hl2
theorem hb_sc_none {p : Nat → Bool} : ∀ {d j : Nat}, hb_sc p d j = none → ∀ l, j ≤ l → l < j + d → ¬ p l = true := by
  intro d
  induction d with
  | zero => intro j h l h1 h2; omega
  | succ d ih =>
    intro j h l h1 h2
    by_cases hp : p j = true
    · rw [hb_sc_t hp] at h
      cases h
    · rw [hb_sc_f hp] at h
      by_cases e : l = j
      · rw [e]; exact hp
      · exact ih h l (by omega) (by omega)
theorem hb_sc_congr {p q : Nat → Bool} : ∀ {d j : Nat}, (∀ l, j ≤ l → l < j + d → p l = q l) → hb_sc p d j = hb_sc q d j := by
  intro d
  induction d with
  | zero => intro j h; rfl
  | succ d ih =>
    intro j h
    rw [hb_sc, hb_sc, h j (by omega) (by omega), ih (fun l h1 h2 => h l (by omega) (by omega))]
/-- the least by lt among those with p, the first of ties -/
def hb_bs (p : Nat → Bool) (lt : Nat → Nat → Bool) : Nat → Nat → Option Nat → Option Nat
  | 0, _, b => b
  | d + 1, j, none => hb_bs p lt d (j + 1) (if p j = true then some j else none)
  | d + 1, j, some i => hb_bs p lt d (j + 1) (if p j = true ∧ lt j i = true then some j else some i)
theorem hb_bs_congr {p q : Nat → Bool} {l1 l2 : Nat → Nat → Bool} {s e : Nat} (hp : ∀ l, s ≤ l → l < e → p l = q l)
    (hl : ∀ i j, s ≤ i → i < j → j < e → p i = true → p j = true → l1 j i = l2 j i) :
    ∀ d j b, s ≤ j → j + d = e → (∀ i, b = some i → s ≤ i ∧ i < j ∧ p i = true) → hb_bs p l1 d j b = hb_bs q l2 d j b := by
  intro d
  induction d with
  | zero => intro j b _ _ _; cases b <;> rfl
  | succ d ih =>
    intro j b hs he hb
    cases b with
    | none =>
      rw [hb_bs, hb_bs, ← hp j hs (by omega)]
      refine ih _ _ (by omega) (by omega) ?_
      intro i hi
      by_cases h : p j = true
      · rw [if_pos h] at hi; cases hi; exact ⟨hs, by omega, h⟩
      · rw [if_neg h] at hi; cases hi
    | some i =>
      obtain ⟨h1, h2, h3⟩ := hb i rfl
      rw [hb_bs, hb_bs, ← hp j hs (by omega)]
      have e : (p j = true ∧ l1 j i = true) ↔ (p j = true ∧ l2 j i = true) := by
        constructor
        · intro h; exact ⟨h.1, by rw [← hl i j h1 h2 (by omega) h3 h.1]; exact h.2⟩
        · intro h; exact ⟨h.1, by rw [hl i j h1 h2 (by omega) h3 h.1]; exact h.2⟩
      by_cases h : p j = true ∧ l1 j i = true
      · rw [if_pos h, if_pos (e.mp h)]
        exact ih _ _ (by omega) (by omega) (fun i' hi' => by cases hi'; exact ⟨hs, by omega, h.1⟩)
      · rw [if_neg h, if_neg (fun z => h (e.mpr z))]
        exact ih _ _ (by omega) (by omega) (fun i' hi' => by cases hi'; exact ⟨h1, by omega, h3⟩)
/-- what the least is: in the range, with p, and before all others with p -/
theorem hb_bs_spec {p : Nat → Bool} {lt : Nat → Nat → Bool} {s e : Nat}
    (htr : ∀ a b c, lt a b = true → lt b c = true → lt a c = true)
    (hto : ∀ i j, s ≤ i → i < e → s ≤ j → j < e → i ≠ j → p i = true → p j = true → lt i j = true ∨ lt j i = true) :
    ∀ d j b, s ≤ j → j + d = e →
      (∀ i, b = some i → s ≤ i ∧ i < j ∧ p i = true ∧ ∀ l, s ≤ l → l < j → p l = true → l = i ∨ lt i l = true) →
      (b = none → ∀ l, s ≤ l → l < j → ¬ p l = true) →
      (∀ i, hb_bs p lt d j b = some i → s ≤ i ∧ i < e ∧ p i = true ∧ ∀ l, s ≤ l → l < e → p l = true → l = i ∨ lt i l = true) ∧
      (hb_bs p lt d j b = none → ∀ l, s ≤ l → l < e → ¬ p l = true) := by
  intro d
  induction d with
  | zero =>
    intro j b hs he h1 h2
    have e1 : hb_bs p lt 0 j b = b := by cases b <;> rfl
    have e2 : j = e := by omega
    rw [e1]; subst e2
    exact ⟨h1, h2⟩
  | succ d ih =>
    intro j b hs he h1 h2
    cases b with
    | none =>
      rw [hb_bs]
      have hn := h2 rfl
      refine ih _ _ (by omega) (by omega) ?_ ?_
      · intro i hi
        by_cases h : p j = true
        · rw [if_pos h] at hi; cases hi
          refine ⟨hs, by omega, h, fun l hl hl2 hpl => ?_⟩
          by_cases e' : l = j
          · exact Or.inl e'
          · exact absurd hpl (hn l hl (by omega))
        · rw [if_neg h] at hi; cases hi
      · intro hi l hl hl2
        by_cases h : p j = true
        · rw [if_pos h] at hi; cases hi
        · by_cases e' : l = j
          · rw [e']; exact h
          · exact hn l hl (by omega)
    | some i =>
      obtain ⟨g1, g2, g3, g4⟩ := h1 i rfl
      rw [hb_bs]
      refine ih _ _ (by omega) (by omega) ?_ ?_
      · intro i' hi'
        by_cases h : p j = true ∧ lt j i = true
        · rw [if_pos h] at hi'; cases hi'
          refine ⟨hs, by omega, h.1, fun l hl hl2 hpl => ?_⟩
          by_cases e' : l = j
          · exact Or.inl e'
          · refine Or.inr ?_
            cases g4 l hl (by omega) hpl with
            | inl e2 => rw [e2]; exact h.2
            | inr e2 => exact htr _ _ _ h.2 e2
        · rw [if_neg h] at hi'; cases hi'
          refine ⟨g1, by omega, g3, fun l hl hl2 hpl => ?_⟩
          by_cases e' : l = j
          · refine Or.inr ?_
            subst e'
            cases hto i l g1 (by omega) hs (by omega) (by omega) g3 hpl with
            | inl z => exact z
            | inr z => exact absurd ⟨hpl, z⟩ h
          · exact g4 l hl (by omega) hpl
      · intro hi'
        by_cases h : p j = true ∧ lt j i = true
        · rw [if_pos h] at hi'; cases hi'
        · rw [if_neg h] at hi'; cases hi'
def hb_Ag (a b : Nat → Int32) : Prop := ∀ j, j < 200 → a j = b j
theorem hb_Ag_u {a b : Nat → Int32} (h : hb_Ag a b) (i : Nat) (x : Int32) : hb_Ag (upd a i x) (upd b i x) := by
  intro j hj
  by_cases e : j = i
  · rw [e, pk_us, pk_us]
  · rw [pk_un e, pk_un e]; exact h j hj
theorem hb_u_id (a : Nat → Int32) (i : Nat) : upd a i (a i) = a := by
  funext j
  by_cases e : j = i
  · rw [e, pk_us]
  · rw [pk_un e]
def hb_cp (s t c : Nat) (a : Nat → Int32) : Nat → Int32 := fun j => if t ≤ j ∧ j < t + c then a (s + (j - t)) else a j
