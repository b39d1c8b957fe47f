def hp_Dj (s c : Nat) (o k b d : Nat → Int32) : Prop := ∀ i j, s ≤ i → i < s + c → s ≤ j → j < s + c → i ≠ j → o i = o j → k i = k j → (b i).toInt ≠ (b j).toInt ∧ ((b i).toInt < (b j).toInt → (d i).toInt ≠ 0 ∧ (d i).toInt ≤ (b j).toInt)
def hp_Rg (s c : Nat) (D : Nat) (b d : Nat → Int32) : Prop := ∀ i, s ≤ i → i < s + c → 1 ≤ (b i).toInt ∧ (b i).toInt ≤ (D : Int) ∧ 0 ≤ (d i).toInt ∧ (d i).toInt ≤ (D : Int)
def hp_M1 (c0 c1 : Nat) (o k b d : Nat → Int32) : Prop := ∀ i m, i < c0 → 100 ≤ m → m < 100 + c1 → o i = o m → k i = k m → (b i).toInt < (b m).toInt → (d i).toInt ≠ 0 ∧ (d i).toInt ≤ (b m).toInt
def hp_M2 (c0 c1 U : Nat) (o k b d : Nat → Int32) : Prop := ∀ m, 100 ≤ m → m < 100 + c1 → (∃ i, i < c0 ∧ o i = o m ∧ k i = k m ∧ (b i).toInt = (b m).toInt) ∨ ((d m).toInt ≠ 0 ∧ (d m).toInt ≤ (U : Int) ∧ ∀ i, i < c0 → o i = o m → k i = k m → (b m).toInt < (b i).toInt → (d m).toInt ≤ (b i).toInt)
def hp_past (o k b : Nat → Int32) (x y z : Int32) (i : Nat) : Prop := x.toInt < (o i).toInt ∨ (o i = x ∧ (y.toInt < (k i).toInt ∨ (k i = y ∧ z.toInt < (b i).toInt)))
def hp_M3 (c0 c1 U G : Nat) (S : Prop) (o k b d : Nat → Int32) (x y z : Int32) : Prop := ∀ i m, i < c0 → 100 ≤ m → m < 100 + c1 → o i = o m → k i = k m → (b i).toInt = (b m).toInt → (d m).toInt = (d i).toInt ∨ ((d m).toInt = 0 ∧ (U : Int) < (d i).toInt ∧ (S → (d i).toInt ≤ (G : Int) → hp_past o k b x y z i))
def hp_J (D E U G c0 c1 : Nat) (S S1 : Prop) (o k b d : Nat → Int32) (x y z : Int32) : Prop :=
  c0 ≤ 100 ∧ c1 ≤ 100 ∧ U ≤ D ∧ G ≤ D ∧ D ≤ E ∧ (S → U ≤ G ∧ ∀ m, 100 ≤ m → m < 100 + c1 → (b m).toInt ≤ (G : Int)) ∧
  hp_Rg 0 c0 E b d ∧ hp_Rg 100 c1 D b d ∧ hp_Dj 0 c0 o k b d ∧ hp_Dj 100 c1 o k b d ∧
  hp_M1 c0 c1 o k b d ∧ hp_M2 c0 c1 U o k b d ∧ hp_M3 c0 c1 U G S1 o k b d x y z
def hp_Sv (c0 c2 D : Nat) (o k b d v : Nat → Int32) : Prop := c2 ≤ c0 ∧
  (∀ i, i < c2 → o (200 + i) = o i ∧ k (200 + i) = k i ∧ b (200 + i) = b i ∧ v (200 + i) = v i ∧ (b i).toInt ≤ (D : Int) ∧ ((d i).toInt = (D : Int) + 1 → (d (200 + i)).toInt = 0) ∧ ((d i).toInt ≠ (D : Int) + 1 → (d (200 + i)).toInt = (d i).toInt)) ∧
  (∀ i, c2 ≤ i → i < c0 → (b i).toInt = (D : Int) + 1)
def hp_Inv (D C U G c0 c1 c2 : Nat) (S S1 : Prop) (o k b d v : Nat → Int32) (x y z : Int32) : Prop :=
  C ≤ 40 ∧ hp_J D (D + 1) U G c0 c1 S S1 o k b d x y z ∧ hp_Sv c0 c2 D o k b d v ∧
  (C = 0 → c0 = c2 ∧ ∀ i, i < c0 → (d i).toInt ≠ (D : Int) + 1)
/-- only what lies below 200 counts -/
theorem hp_J_congr {D E U G c0 c1 : Nat} {S S1 : Prop} {o k b d o' k' b' d' : Nat → Int32} {x y z : Int32}
    (h : hp_J D E U G c0 c1 S S1 o k b d x y z)
    (ho : ∀ j, j < 200 → o' j = o j) (hk : ∀ j, j < 200 → k' j = k j) (hb : ∀ j, j < 200 → b' j = b j) (hd : ∀ j, j < 200 → d' j = d j) :
    hp_J D E U G c0 c1 S S1 o' k' b' d' x y z := by
  obtain ⟨a1, a2, a3, a4, a5, a6, a7, a8, a9, a10, a11, a12, a13⟩ := h
  refine ⟨a1, a2, a3, a4, a5, ?_, ?_, ?_, ?_, ?_, ?_, ?_, ?_⟩
  · intro hs
    refine ⟨(a6 hs).1, fun m h1 h2 => ?_⟩
    rw [hb m (by omega)]; exact (a6 hs).2 m h1 h2
  · intro i h1 h2
    rw [hb i (by omega), hd i (by omega)]; exact a7 i h1 h2
  · intro i h1 h2
    rw [hb i (by omega), hd i (by omega)]; exact a8 i h1 h2
  · intro i j h1 h2 h3 h4
    rw [ho i (by omega), ho j (by omega), hk i (by omega), hk j (by omega), hb i (by omega), hb j (by omega), hd i (by omega)]
    exact a9 i j h1 h2 h3 h4
  · intro i j h1 h2 h3 h4
    rw [ho i (by omega), ho j (by omega), hk i (by omega), hk j (by omega), hb i (by omega), hb j (by omega), hd i (by omega)]
    exact a10 i j h1 h2 h3 h4
  · intro i m h1 h2 h3
    rw [ho i (by omega), ho m (by omega), hk i (by omega), hk m (by omega), hb i (by omega), hb m (by omega), hd i (by omega)]
    exact a11 i m h1 h2 h3
  · intro m h2 h3
    cases a12 m h2 h3 with
    | inl q =>
      obtain ⟨i, q1, q2, q3, q4⟩ := q
      refine Or.inl ⟨i, q1, ?_⟩
      rw [ho i (by omega), ho m (by omega), hk i (by omega), hk m (by omega), hb i (by omega), hb m (by omega)]
      exact ⟨q2, q3, q4⟩
    | inr q =>
      refine Or.inr ?_
      rw [hd m (by omega)]
      refine ⟨q.1, q.2.1, fun i hi => ?_⟩
      rw [ho i (by omega), ho m (by omega), hk i (by omega), hk m (by omega), hb i (by omega), hb m (by omega)]
      exact q.2.2 i hi
  · intro i m h1 h2 h3
    unfold hp_past
    rw [ho i (by omega), ho m (by omega), hk i (by omega), hk m (by omega), hb i (by omega), hb m (by omega), hd i (by omega), hd m (by omega)]
    exact a13 i m h1 h2 h3
theorem hp_J_mono {D E D' E' U G c0 c1 : Nat} {S S1 S' S1' : Prop} {o k b d : Nat → Int32} {x y z : Int32}
    (h : hp_J D E U G c0 c1 S S1 o k b d x y z) (hD : D ≤ D') (hE : E ≤ E') (hDE : D' ≤ E') (hS : S' → S) (hS1 : S1' → S1) :
    hp_J D' E' U G c0 c1 S' S1' o k b d x y z := by
  obtain ⟨a1, a2, a3, a4, a5, a6, a7, a8, a9, a10, a11, a12, a13⟩ := h
  refine ⟨a1, a2, by omega, by omega, hDE, fun s => a6 (hS s), ?_, ?_, a9, a10, a11, a12, ?_⟩
  · intro i h1 h2; have := a7 i h1 h2; omega
  · intro i h1 h2; have := a8 i h1 h2; omega
  · intro i m h1 h2 h3 h4 h5 h6
    cases a13 i m h1 h2 h3 h4 h5 h6 with
    | inl q => exact Or.inl q
    | inr q => exact Or.inr ⟨q.1, q.2.1, fun s => q.2.2 (hS1 s)⟩
theorem hp_bump {D C U G c0 c1 c2 : Nat} {S S1 : Prop} {o k b d v : Nat → Int32} {x y z : Int32}
    (h : hp_Inv D C U G c0 c1 c2 S S1 o k b d v x y z) (hC : C < 40) : hp_Inv D (C + 1) U G c0 c1 c2 S S1 o k b d v x y z :=
  ⟨by omega, h.2.1, h.2.2.1, fun z => by omega⟩
theorem hp_end {D C U G c0 c1 c2 e : Nat} {S S1 : Prop} {o k b d d' v : Nat → Int32} {x y z : Int32}
    (h : hp_Inv D (C + 1) U G c0 c1 c2 S S1 o k b d v x y z) (he : e < c0) (h0 : (d e).toInt = 0)
    (h1 : (d' e).toInt = (D : Int) + 1) (h2 : ∀ i, i ≠ e → d' i = d i) : hp_Inv D (C + 1) U G c0 c1 c2 S S1 o k b d' v x y z := by
  obtain ⟨b1, ⟨a1, a2, a3, a4, a5, a6, a7, a8, a9, a10, a11, a12, a13⟩, ⟨s1, s2, s3⟩, b4⟩ := h
  refine ⟨b1, ⟨a1, a2, a3, a4, a5, a6, ?_, ?_, ?_, ?_, ?_, ?_, ?_⟩, ⟨s1, ?_, s3⟩, fun z => by omega⟩
  · intro i g1 g2
    have := a7 i g1 g2
    by_cases q : i = e
    · subst q; omega
    · rw [h2 i q]; omega
  · intro i g1 g2
    rw [h2 i (by omega)]; exact a8 i g1 g2
  · intro i j g1 g2 g3 g4 g5 g6 g7
    have := a9 i j g1 g2 g3 g4 g5 g6 g7
    by_cases q : i = e
    · subst q; omega
    · rw [h2 i q]; exact this
  · intro i j g1 g2
    rw [h2 i (by omega)]; exact a10 i j g1 g2
  · intro i m g1 g2 g3 g4 g5 g6
    have := a11 i m g1 g2 g3 g4 g5 g6
    by_cases q : i = e
    · subst q; omega
    · rw [h2 i q]; exact this
  · intro m g1 g2
    rw [h2 m (by omega)]; exact a12 m g1 g2
  · intro i m g1 g2 g3 g4 g5 g6
    have := a13 i m g1 g2 g3 g4 g5 g6
    rw [h2 m (by omega)]
    by_cases q : i = e
    · subst q
      refine Or.inr ⟨by omega, by omega, fun _ z => by omega⟩
    · rw [h2 i q]; exact this
  · intro i g1
    have := s2 i g1
    rw [h2 (200 + i) (by omega)]
    by_cases q : i = e
    · subst q
      obtain ⟨r1, r2, r3, r4, r5, r6, r7⟩ := this
      exact ⟨r1, r2, r3, r4, r5, fun _ => by omega, fun z => by omega⟩
    · rw [h2 i q]; exact this
theorem hp_own {D C U G c0 c1 c2 e : Nat} {S S1 : Prop} {o k b d d' v v' : Nat → Int32} {x y z : Int32}
    (h : hp_Inv D (C + 1) U G c0 c1 c2 S S1 o k b d v x y z) (he : e < c0) (h0 : (b e).toInt = (D : Int) + 1)
    (h1 : (d' e).toInt = 0) (h2 : ∀ i, i ≠ e → d' i = d i) (h3 : ∀ i, i ≠ e → v' i = v i) : hp_Inv D (C + 1) U G c0 c1 c2 S S1 o k b d' v' x y z := by
  obtain ⟨b1, ⟨a1, a2, a3, a4, a5, a6, a7, a8, a9, a10, a11, a12, a13⟩, ⟨s1, s2, s3⟩, b4⟩ := h
  refine ⟨b1, ⟨a1, a2, a3, a4, a5, a6, ?_, ?_, ?_, ?_, ?_, ?_, ?_⟩, ⟨s1, ?_, s3⟩, fun z => by omega⟩
  · intro i g1 g2
    have := a7 i g1 g2
    by_cases q : i = e
    · subst q; omega
    · rw [h2 i q]; omega
  · intro i g1 g2
    rw [h2 i (by omega)]; exact a8 i g1 g2
  · intro i j g1 g2 g3 g4 g5 g6 g7
    have := a9 i j g1 g2 g3 g4 g5 g6 g7
    have := a7 j g3 g4
    by_cases q : i = e
    · subst q; omega
    · rw [h2 i q]; assumption
  · intro i j g1 g2
    rw [h2 i (by omega)]; exact a10 i j g1 g2
  · intro i m g1 g2 g3 g4 g5 g6
    have := a11 i m g1 g2 g3 g4 g5 g6
    have := a8 m g2 g3
    by_cases q : i = e
    · subst q; omega
    · rw [h2 i q]; assumption
  · intro m g1 g2
    rw [h2 m (by omega)]; exact a12 m g1 g2
  · intro i m g1 g2 g3 g4 g5 g6
    have := a8 m g2 g3
    have := a13 i m g1 g2 g3 g4 g5 g6
    rw [h2 m (by omega)]
    by_cases q : i = e
    · subst q; omega
    · rw [h2 i q]; exact this
  · intro i g1
    have := s2 i g1
    have q : i ≠ e := fun z => by subst z; omega
    rw [h2 (200 + i) (by omega), h3 (200 + i) (by omega), h2 i q, h3 i q]
    exact this
theorem hp_add {D C U G c0 c1 c2 : Nat} {S S1 : Prop} {o k b d v o' k' b' d' v' : Nat → Int32} {x y z p q : Int32}
    (h : hp_Inv D (C + 1) U G c0 c1 c2 S S1 o k b d v x y z) (hc : c0 < 100)
    (hn : ∀ i, i < c0 → o i = p → k i = q → (b i).toInt ≠ (D : Int) + 1 ∧ (d i).toInt ≠ 0)
    (ho : o' c0 = p) (hk : k' c0 = q) (hb : (b' c0).toInt = (D : Int) + 1) (hd : (d' c0).toInt = 0)
    (jo : ∀ i, i ≠ c0 → o' i = o i) (jk : ∀ i, i ≠ c0 → k' i = k i) (jb : ∀ i, i ≠ c0 → b' i = b i) (jd : ∀ i, i ≠ c0 → d' i = d i) (jv : ∀ i, i ≠ c0 → v' i = v i) :
    hp_Inv D (C + 1) U G (c0 + 1) c1 c2 S S1 o' k' b' d' v' x y z := by
  obtain ⟨b1, ⟨a1, a2, a3, a4, a5, a6, a7, a8, a9, a10, a11, a12, a13⟩, ⟨s1, s2, s3⟩, b4⟩ := h
  refine ⟨b1, ⟨by omega, a2, a3, a4, a5, ?_, ?_, ?_, ?_, ?_, ?_, ?_, ?_⟩, ⟨by omega, ?_, ?_⟩, fun z => by omega⟩
  · intro s
    refine ⟨(a6 s).1, fun m g1 g2 => ?_⟩
    rw [jb m (by omega)]; exact (a6 s).2 m g1 g2
  · intro i g1 g2
    by_cases e : i = c0
    · subst e; omega
    · rw [jb i e, jd i e]; exact a7 i g1 (by omega)
  · intro i g1 g2
    rw [jb i (by omega), jd i (by omega)]; exact a8 i g1 g2
  · intro i j g1 g2 g3 g4 g5 g6 g7
    by_cases e : i = c0
    · subst e
      have e2 : j ≠ i := fun z => g5 z.symm
      rw [jo j e2, ho] at g6
      rw [jk j e2, hk] at g7
      rw [jb j e2]
      have := hn j (by omega) g6.symm g7.symm
      have := a7 j g3 (by omega)
      omega
    · by_cases e2 : j = c0
      · subst e2
        rw [jo i e, ho] at g6
        rw [jk i e, hk] at g7
        rw [jb i e, jd i e]
        have := hn i (by omega) g6 g7
        have := a7 i g1 (by omega)
        omega
      · rw [jo i e, jo j e2] at g6
        rw [jk i e, jk j e2] at g7
        rw [jb i e, jb j e2, jd i e]
        exact a9 i j g1 (by omega) g3 (by omega) g5 g6 g7
  · intro i j g1 g2 g3 g4
    rw [jo i (by omega), jo j (by omega), jk i (by omega), jk j (by omega), jb i (by omega), jb j (by omega), jd i (by omega)]
    exact a10 i j g1 g2 g3 g4
  · intro i m g1 g2 g3 g4 g5
    rw [jb m (by omega)]
    have := a8 m g2 g3
    by_cases e : i = c0
    · subst e; omega
    · rw [jo i e, jo m (by omega)] at g4
      rw [jk i e, jk m (by omega)] at g5
      rw [jb i e, jd i e]
      exact a11 i m (by omega) g2 g3 g4 g5
  · intro m g1 g2
    have em : m ≠ c0 := by omega
    rw [jo m em, jk m em, jb m em, jd m em]
    cases a12 m g1 g2 with
    | inl w =>
      obtain ⟨i, w1, w2⟩ := w
      refine Or.inl ⟨i, by omega, ?_⟩
      rw [jo i (by omega), jk i (by omega), jb i (by omega)]
      exact w2
    | inr w =>
      refine Or.inr ⟨w.1, w.2.1, fun i g3 => ?_⟩
      by_cases e : i = c0
      · intro _ _ _; subst e; omega
      · rw [jo i e, jk i e, jb i e]; exact w.2.2 i (by omega)
  · intro i m g1 g2 g3
    have em : m ≠ c0 := by omega
    have := a8 m g2 g3
    by_cases e : i = c0
    · intro _ _ z
      rw [jb m em] at z
      subst e; omega
    · unfold hp_past
      rw [jo m em, jk m em, jb m em, jd m em, jo i e, jk i e, jb i e, jd i e]
      exact a13 i m (by omega) g2 g3
  · intro i g1
    rw [jo (200 + i) (by omega), jk (200 + i) (by omega), jb (200 + i) (by omega), jd (200 + i) (by omega), jv (200 + i) (by omega),
      jo i (by omega), jk i (by omega), jb i (by omega), jd i (by omega), jv i (by omega)]
    exact s2 i g1
  · intro i g1 g2
    by_cases e : i = c0
    · subst e; exact hb
    · rw [jb i e]; exact s3 i g1 (by omega)
