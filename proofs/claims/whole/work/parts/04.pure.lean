/-- a volume (from s on, c records) lost some records, each with Q; the rest was moved about -/
def hp_Sq (Q : Int32 → Int32 → Prop) (s c c' : Nat) (o k b d o' k' b' d' : Nat → Int32) : Prop :=
  c' ≤ c ∧ ∃ f : Nat → Nat, (∀ j, s ≤ j → j < s + c' → s ≤ f j ∧ f j < s + c ∧ o' j = o (f j) ∧ k' j = k (f j) ∧ b' j = b (f j) ∧ d' j = d (f j)) ∧
  (∀ i j, s ≤ i → i < s + c' → s ≤ j → j < s + c' → f i = f j → i = j) ∧
  (∀ i, s ≤ i → i < s + c → (∃ j, s ≤ j ∧ j < s + c' ∧ f j = i) ∨ Q (b i) (d i)) ∧
  (∀ j, j < s ∨ s + c ≤ j → o' j = o j ∧ k' j = k j ∧ b' j = b j ∧ d' j = d j)
theorem hp_Sq_0 (Q : Int32 → Int32 → Prop) (s c : Nat) (o k b d : Nat → Int32) : hp_Sq Q s c c o k b d o k b d :=
  ⟨Nat.le_refl c, fun j => j, fun j h1 h2 => ⟨h1, h2, rfl, rfl, rfl, rfl⟩, fun i j _ _ _ _ h => h, fun i h1 h2 => Or.inl ⟨i, h1, h2, rfl⟩, fun j _ => ⟨rfl, rfl, rfl, rfl⟩⟩
theorem hp_Sq_s {Q : Int32 → Int32 → Prop} {s c c' i : Nat} {o k b d o' k' b' d' : Nat → Int32}
    (h : hp_Sq Q s c (c' + 1) o k b d o' k' b' d') (h1 : s ≤ i) (h2 : i < s + (c' + 1)) (hQ : Q (b' i) (d' i)) :
    hp_Sq Q s c c' o k b d (upd o' i (o' (s + c'))) (upd k' i (k' (s + c'))) (upd b' i (b' (s + c'))) (upd d' i (d' (s + c'))) := by
  obtain ⟨hc, f, f1, f2, f3, f4⟩ := h
  refine ⟨by omega, fun j => if j = i then f (s + c') else f j, ?_, ?_, ?_, ?_⟩
  · intro j g1 g2
    by_cases e : j = i
    · subst e
      dsimp only
      rw [if_pos rfl, pk_us, pk_us, pk_us, pk_us]
      exact f1 _ (by omega) (by omega)
    · dsimp only
      rw [if_neg e, pk_un e, pk_un e, pk_un e, pk_un e]
      exact f1 _ (by omega) (by omega)
  · intro a j g1 g2 g3 g4
    dsimp only
    by_cases e : a = i
    · by_cases e2 : j = i
      · intro _; omega
      · rw [if_pos e, if_neg e2]
        intro g
        have := f2 _ _ (by omega) (by omega) (by omega) (by omega) g
        omega
    · by_cases e2 : j = i
      · rw [if_neg e, if_pos e2]
        intro g
        have := f2 _ _ (by omega) (by omega) (by omega) (by omega) g
        omega
      · rw [if_neg e, if_neg e2]
        intro g
        exact f2 _ _ (by omega) (by omega) (by omega) (by omega) g
  · intro a g1 g2
    cases f3 a g1 g2 with
    | inr q => exact Or.inr q
    | inl q =>
      obtain ⟨j, q1, q2, q3⟩ := q
      by_cases e : j = i
      · subst e
        have := f1 j q1 q2
        rw [this.2.2.2.2.1, this.2.2.2.2.2, q3] at hQ
        exact Or.inr hQ
      · by_cases e2 : j = s + c'
        · refine Or.inl ⟨i, h1, by omega, ?_⟩
          dsimp only
          rw [if_pos rfl, ← e2]; exact q3
        · refine Or.inl ⟨j, q1, by omega, ?_⟩
          dsimp only
          rw [if_neg e]; exact q3
  · intro j g
    have e : j ≠ i := by omega
    rw [pk_un e, pk_un e, pk_un e, pk_un e]
    exact f4 j g
theorem hp_sub0 {Q : Int32 → Int32 → Prop} {D E U G c0 c1 c' : Nat} {S S1 : Prop} {o k b d o' k' b' d' : Nat → Int32} {x y z : Int32}
    (h : hp_J D E U G c0 c1 S S1 o k b d x y z) (q : hp_Sq Q 0 c0 c' o k b d o' k' b' d')
    (hQ : ∀ i, i < c0 → Q (b i) (d i) → (D : Int) < (b i).toInt ∨ ((d i).toInt ≠ 0 ∧ (d i).toInt ≤ (U : Int))) :
    hp_J D E U G c' c1 S S1 o' k' b' d' x y z := by
  obtain ⟨a1, a2, a3, a4, a5, a6, a7, a8, a9, a10, a11, a12, a13⟩ := h
  obtain ⟨hc, f, f1, f2, f3, f4⟩ := q
  refine ⟨by omega, a2, a3, a4, a5, ?_, ?_, ?_, ?_, ?_, ?_, ?_, ?_⟩
  · intro s
    refine ⟨(a6 s).1, fun m g1 g2 => ?_⟩
    rw [(f4 m (by omega)).2.2.1]; exact (a6 s).2 m g1 g2
  · intro i g1 g2
    obtain ⟨r1, r2, r3, r4, r5, r6⟩ := f1 i g1 g2
    rw [r5, r6]; exact a7 _ r1 r2
  · intro i g1 g2
    obtain ⟨r3, r4, r5, r6⟩ := f4 i (by omega)
    rw [r5, r6]; exact a8 _ g1 g2
  · intro i j g1 g2 g3 g4 g5
    obtain ⟨r1, r2, r3, r4, r5, r6⟩ := f1 i g1 g2
    obtain ⟨t1, t2, t3, t4, t5, t6⟩ := f1 j g3 g4
    rw [r3, r4, r5, r6, t3, t4, t5]
    exact a9 _ _ r1 r2 t1 t2 (fun z => g5 (f2 i j g1 g2 g3 g4 z))
  · intro i j g1 g2 g3 g4 g5
    obtain ⟨r3, r4, r5, r6⟩ := f4 i (by omega)
    obtain ⟨t3, t4, t5, t6⟩ := f4 j (by omega)
    rw [r3, r4, r5, r6, t3, t4, t5]
    exact a10 _ _ g1 g2 g3 g4 g5
  · intro i m g1 g2 g3
    obtain ⟨r1, r2, r3, r4, r5, r6⟩ := f1 i (by omega) (by omega)
    obtain ⟨t3, t4, t5, t6⟩ := f4 m (by omega)
    rw [r3, r4, r5, r6, t3, t4, t5]
    exact a11 _ _ (by omega) g2 g3
  · intro m g1 g2
    obtain ⟨t3, t4, t5, t6⟩ := f4 m (by omega)
    rw [t3, t4, t5, t6]
    cases a12 m g1 g2 with
    | inl w =>
      obtain ⟨i, w1, w2, w3, w4⟩ := w
      cases f3 i (by omega) (by omega) with
      | inl p =>
        obtain ⟨j, p1, p2, p3⟩ := p
        obtain ⟨r1, r2, r3, r4, r5, r6⟩ := f1 j p1 p2
        refine Or.inl ⟨j, by omega, ?_⟩
        rw [r3, r4, r5, p3]
        exact ⟨w2, w3, w4⟩
      | inr p =>
        have h1 := a8 m g1 g2
        have h2 := hQ i w1 p
        have h3 := a13 i m w1 g1 g2 w2 w3 w4
        have h4 : (d m).toInt = (d i).toInt := by omega
        by_cases ex : ∃ j, j < c' ∧ f j = i
        · obtain ⟨j, p1, p3⟩ := ex
          obtain ⟨r1, r2, r3, r4, r5, r6⟩ := f1 j (by omega) (by omega)
          refine Or.inl ⟨j, by omega, ?_⟩
          rw [r3, r4, r5, p3]
          exact ⟨w2, w3, w4⟩
        · refine Or.inr ⟨by omega, by omega, fun j p1 => ?_⟩
          obtain ⟨r1, r2, r3, r4, r5, r6⟩ := f1 j (by omega) (by omega)
          rw [r3, r4, r5]
          intro p2 p3 p4
          have h5 := a9 i (f j) (by omega) (by omega) (by omega) (by omega) (fun z => ex ⟨j, p1, z.symm⟩) (w2.trans p2.symm) (w3.trans p3.symm)
          omega
    | inr w =>
      refine Or.inr ⟨w.1, w.2.1, fun i p1 => ?_⟩
      obtain ⟨r1, r2, r3, r4, r5, r6⟩ := f1 i (by omega) (by omega)
      rw [r3, r4, r5]
      exact w.2.2 _ (by omega)
  · intro i m g1 g2 g3
    obtain ⟨r1, r2, r3, r4, r5, r6⟩ := f1 i (by omega) (by omega)
    obtain ⟨t3, t4, t5, t6⟩ := f4 m (by omega)
    unfold hp_past
    rw [r3, r4, r5, r6, t3, t4, t5, t6]
    exact a13 _ _ (by omega) g2 g3
theorem hp_sub1 {Q : Int32 → Int32 → Prop} {D E U G c0 c1 c' : Nat} {S S1 : Prop} {o k b d o' k' b' d' : Nat → Int32} {x y z : Int32}
    (h : hp_J D E U G c0 c1 S S1 o k b d x y z) (q : hp_Sq Q 100 c1 c' o k b d o' k' b' d') :
    hp_J D E U G c0 c' S S1 o' k' b' d' x y z := by
  obtain ⟨a1, a2, a3, a4, a5, a6, a7, a8, a9, a10, a11, a12, a13⟩ := h
  obtain ⟨hc, f, f1, f2, f3, f4⟩ := q
  refine ⟨a1, by omega, a3, a4, a5, ?_, ?_, ?_, ?_, ?_, ?_, ?_, ?_⟩
  · intro s
    refine ⟨(a6 s).1, fun m g1 g2 => ?_⟩
    obtain ⟨r1, r2, r3, r4, r5, r6⟩ := f1 m g1 g2
    rw [r5]; exact (a6 s).2 _ r1 r2
  · intro i g1 g2
    obtain ⟨r3, r4, r5, r6⟩ := f4 i (by omega)
    rw [r5, r6]; exact a7 _ g1 g2
  · intro i g1 g2
    obtain ⟨r1, r2, r3, r4, r5, r6⟩ := f1 i g1 g2
    rw [r5, r6]; exact a8 _ r1 r2
  · intro i j g1 g2 g3 g4 g5
    obtain ⟨r3, r4, r5, r6⟩ := f4 i (by omega)
    obtain ⟨t3, t4, t5, t6⟩ := f4 j (by omega)
    rw [r3, r4, r5, r6, t3, t4, t5]
    exact a9 _ _ g1 g2 g3 g4 g5
  · intro i j g1 g2 g3 g4 g5
    obtain ⟨r1, r2, r3, r4, r5, r6⟩ := f1 i g1 g2
    obtain ⟨t1, t2, t3, t4, t5, t6⟩ := f1 j g3 g4
    rw [r3, r4, r5, r6, t3, t4, t5]
    exact a10 _ _ r1 r2 t1 t2 (fun z => g5 (f2 i j g1 g2 g3 g4 z))
  · intro i m g1 g2 g3
    obtain ⟨r3, r4, r5, r6⟩ := f4 i (by omega)
    obtain ⟨t1, t2, t3, t4, t5, t6⟩ := f1 m g2 g3
    rw [r3, r4, r5, r6, t3, t4, t5]
    exact a11 _ _ g1 t1 t2
  · intro m g1 g2
    obtain ⟨t1, t2, t3, t4, t5, t6⟩ := f1 m g1 g2
    rw [t3, t4, t5, t6]
    cases a12 _ t1 t2 with
    | inl w =>
      obtain ⟨i, w1, w2⟩ := w
      obtain ⟨r3, r4, r5, r6⟩ := f4 i (by omega)
      refine Or.inl ⟨i, w1, ?_⟩
      rw [r3, r4, r5]; exact w2
    | inr w =>
      refine Or.inr ⟨w.1, w.2.1, fun i p1 => ?_⟩
      obtain ⟨r3, r4, r5, r6⟩ := f4 i (by omega)
      rw [r3, r4, r5]
      exact w.2.2 _ p1
  · intro i m g1 g2 g3
    obtain ⟨r3, r4, r5, r6⟩ := f4 i (by omega)
    obtain ⟨t1, t2, t3, t4, t5, t6⟩ := f1 m g2 g3
    unfold hp_past
    rw [r3, r4, r5, r6, t3, t4, t5, t6]
    exact a13 _ _ g1 t1 t2
theorem hp_low {D U G c0 c1 c2 : Nat} {S S1 : Prop} {o k b d v : Nat → Int32} {x y z : Int32}
    (h : hp_Inv D 0 U G c0 c1 c2 S S1 o k b d v x y z) : hp_J D D U G c0 c1 S S1 o k b d x y z := by
  obtain ⟨b1, ⟨a1, a2, a3, a4, a5, a6, a7, a8, a9, a10, a11, a12, a13⟩, ⟨s1, s2, s3⟩, b4⟩ := h
  refine ⟨a1, a2, a3, a4, Nat.le_refl D, a6, ?_, a8, a9, a10, a11, a12, a13⟩
  obtain ⟨e, b5⟩ := b4 rfl
  intro i g1 g2
  have := a7 i g1 g2
  have := s2 i (by omega)
  have := b5 i (by omega)
  omega
/-- the master as it stands is what abort brings back -/
theorem hp_fin {D U G c0 c1 : Nat} {S S1 : Prop} {o k b d v : Nat → Int32} {x y z : Int32}
    (h : hp_J D D U G c0 c1 S S1 o k b d x y z) : hp_Inv D 0 U G c0 c1 c0 S S1 (hb_cp 0 200 c0 o) (hb_cp 0 200 c0 k) (hb_cp 0 200 c0 b) (hb_cp 0 200 c0 d) (hb_cp 0 200 c0 v) x y z := by
  have hA : ∀ (a : Nat → Int32) (j : Nat), j < 200 → hb_cp 0 200 c0 a j = a j := fun a j hj => if_neg (by omega)
  have hB : ∀ (a : Nat → Int32) (j : Nat), j < c0 → hb_cp 0 200 c0 a (200 + j) = a j := fun a j hj => by
    unfold hb_cp
    rw [if_pos (by omega)]; exact congrArg a (by omega)
  have hJ := hp_J_congr (hp_J_mono h (Nat.le_refl D) (Nat.le_succ D) (by omega) id id) (hA o) (hA k) (hA b) (hA d)
  obtain ⟨a1, a2, a3, a4, a5, a6, a7, a8, a9⟩ := h
  refine ⟨by omega, hJ, ⟨Nat.le_refl c0, ?_, fun i g1 g2 => by omega⟩, fun _ => ⟨rfl, ?_⟩⟩
  · intro i hi
    have := a7 i (by omega) (by omega)
    rw [hB o i hi, hB k i hi, hB b i hi, hB d i hi, hB v i hi, hA o i (by omega), hA k i (by omega), hA b i (by omega), hA d i (by omega), hA v i (by omega)]
    exact ⟨rfl, rfl, rfl, rfl, by omega, fun z => by omega, fun _ => rfl⟩
  · intro i hi
    have := a7 i (by omega) (by omega)
    rw [hA d i (by omega)]; omega
theorem hp_abort {D C U G c0 c1 c2 : Nat} {S S1 : Prop} {o k b d v : Nat → Int32} {x y z : Int32}
    (h : hp_Inv D C U G c0 c1 c2 S S1 o k b d v x y z) :
    hp_Inv D 0 U G c2 c1 c2 S S1 (hb_cp 200 0 c2 o) (hb_cp 200 0 c2 k) (hb_cp 200 0 c2 b) (hb_cp 200 0 c2 d) (hb_cp 200 0 c2 v) x y z := by
  have hA : ∀ (a : Nat → Int32) (j : Nat), c2 ≤ j → hb_cp 200 0 c2 a j = a j := fun a j hj => if_neg (by omega)
  have hB : ∀ (a : Nat → Int32) (j : Nat), j < c2 → hb_cp 200 0 c2 a j = a (200 + j) := fun a j hj => by
    unfold hb_cp
    rw [if_pos (by omega)]; exact congrArg a (by omega)
  obtain ⟨b1, ⟨a1, a2, a3, a4, a5, a6, a7, a8, a9, a10, a11, a12, a13⟩, ⟨s1, s2, s3⟩, b4⟩ := h
  have hO : ∀ j, j < c2 → hb_cp 200 0 c2 o j = o j := fun j hj => (hB o j hj).trans (s2 j hj).1
  have hK : ∀ j, j < c2 → hb_cp 200 0 c2 k j = k j := fun j hj => (hB k j hj).trans (s2 j hj).2.1
  have hBb : ∀ j, j < c2 → hb_cp 200 0 c2 b j = b j := fun j hj => (hB b j hj).trans (s2 j hj).2.2.1
  have hV : ∀ j, j < c2 → hb_cp 200 0 c2 v j = v j := fun j hj => (hB v j hj).trans (s2 j hj).2.2.2.1
  refine ⟨by omega, ⟨by omega, a2, a3, a4, a5, ?_, ?_, ?_, ?_, ?_, ?_, ?_, ?_⟩, ⟨Nat.le_refl c2, ?_, fun i g1 g2 => by omega⟩, fun _ => ⟨rfl, ?_⟩⟩
  · intro s
    refine ⟨(a6 s).1, fun m g1 g2 => ?_⟩
    rw [hA b m (by omega)]; exact (a6 s).2 m g1 g2
  · intro i g1 g2
    have := a7 i g1 (by omega)
    have := s2 i (by omega)
    rw [hBb i (by omega), hB d i (by omega)]; omega
  · intro i g1 g2
    rw [hA b i (by omega), hA d i (by omega)]; exact a8 i g1 g2
  · intro i j g1 g2 g3 g4 g5
    rw [hO i (by omega), hO j (by omega), hK i (by omega), hK j (by omega), hBb i (by omega), hBb j (by omega), hB d i (by omega)]
    intro g6 g7
    have := a9 i j g1 (by omega) g3 (by omega) g5 g6 g7
    have := s2 i (by omega)
    have := s2 j (by omega)
    omega
  · intro i j g1 g2 g3 g4
    rw [hA o i (by omega), hA o j (by omega), hA k i (by omega), hA k j (by omega), hA b i (by omega), hA b j (by omega), hA d i (by omega)]
    exact a10 i j g1 g2 g3 g4
  · intro i m g1 g2 g3
    rw [hO i g1, hK i g1, hBb i g1, hB d i g1, hA o m (by omega), hA k m (by omega), hA b m (by omega)]
    intro g4 g5 g6
    have := a11 i m (by omega) g2 g3 g4 g5 g6
    have := a8 m g2 g3
    have := s2 i (by omega)
    omega
  · intro m g1 g2
    have := a8 m g1 g2
    rw [hA o m (by omega), hA k m (by omega), hA b m (by omega), hA d m (by omega)]
    cases a12 m g1 g2 with
    | inl w =>
      obtain ⟨i, w1, w2, w3, w4⟩ := w
      by_cases e : i < c2
      · refine Or.inl ⟨i, e, ?_⟩
        rw [hO i e, hK i e, hBb i e]; exact ⟨w2, w3, w4⟩
      · have := s3 i (by omega) w1
        omega
    | inr w =>
      refine Or.inr ⟨w.1, w.2.1, fun i p1 => ?_⟩
      rw [hO i p1, hK i p1, hBb i p1]
      exact w.2.2 i (by omega)
  · intro i m g1 g2 g3
    unfold hp_past
    rw [hO i g1, hK i g1, hBb i g1, hB d i g1, hA o m (by omega), hA k m (by omega), hA b m (by omega), hA d m (by omega)]
    intro g4 g5 g6
    have q1 := a8 m g2 g3
    have q2 := s2 i (by omega)
    cases a13 i m (by omega) g2 g3 g4 g5 g6 with
    | inl w => exact Or.inl (by omega)
    | inr w =>
      by_cases e : (d i).toInt = (D : Int) + 1
      · exact Or.inl (by omega)
      · have q3 := q2.2.2.2.2.2.2 e
        rw [q3]
        exact Or.inr w
  · intro i hi
    have q2 := s2 i hi
    have q3 := a7 i (by omega) (by omega)
    rw [hA o (200 + i) (by omega), hA k (200 + i) (by omega), hA b (200 + i) (by omega), hA d (200 + i) (by omega), hA v (200 + i) (by omega),
      hB o i hi, hB k i hi, hB b i hi, hB d i hi, hB v i hi]
    refine ⟨rfl, rfl, rfl, rfl, ?_, fun z => by omega, fun _ => rfl⟩
    rw [q2.2.2.1]; exact q2.2.2.2.2.1
  · intro i hi
    have q2 := s2 i hi
    have q3 := a7 i (by omega) (by omega)
    rw [hB d i hi]; omega
theorem hp_start {D E U G c0 c1 : Nat} {S S1 S' S1' : Prop} {o k b d : Nat → Int32} {x y z : Int32}
    (h : hp_J D E U G c0 c1 S S1 o k b d x y z) (hS : ¬ S1') : hp_J D E U D c0 c1 S' S1' o k b d x y z := by
  obtain ⟨a1, a2, a3, a4, a5, a6, a7, a8, a9, a10, a11, a12, a13⟩ := h
  refine ⟨a1, a2, a3, Nat.le_refl D, a5, fun _ => ⟨a3, fun m g1 g2 => (a8 m g1 g2).2.1⟩, a7, a8, a9, a10, a11, a12, ?_⟩
  intro i m g1 g2 g3 g4 g5 g6
  cases a13 i m g1 g2 g3 g4 g5 g6 with
  | inl w => exact Or.inl w
  | inr w => exact Or.inr ⟨w.1, w.2.1, fun z => absurd z hS⟩
def hp_due (U G : Nat) (b d : Nat → Int32) (i : Nat) : Prop := (b i).toInt ≤ (G : Int) ∧ ((U : Int) < (b i).toInt ∨ ((U : Int) < (d i).toInt ∧ (d i).toInt ≤ (G : Int)))
theorem hp_stop {D E U G c0 c1 : Nat} {S S1 S' S1' : Prop} {o k b d : Nat → Int32} {x y z : Int32}
    (h : hp_J D E U G c0 c1 S S1 o k b d x y z) (hs : S) (hS : ¬ S') (hS1 : ¬ S1')
    (hn : ∀ i, i < c0 → hp_due U G b d i → (S1 → hp_past o k b x y z i) → False) : hp_J D E G G c0 c1 S' S1' o k b d x y z := by
  obtain ⟨a1, a2, a3, a4, a5, a6, a7, a8, a9, a10, a11, a12, a13⟩ := h
  obtain ⟨c, c'⟩ := a6 hs
  refine ⟨a1, a2, a4, a4, a5, fun z => absurd z hS, a7, a8, a9, a10, a11, ?_, ?_⟩
  · intro m g1 g2
    cases a12 m g1 g2 with
    | inl w => exact Or.inl w
    | inr w => exact Or.inr ⟨w.1, by omega, w.2.2⟩
  · intro i m g1 g2 g3 g4 g5 g6
    cases a13 i m g1 g2 g3 g4 g5 g6 with
    | inl w => exact Or.inl w
    | inr w =>
      refine Or.inr ⟨w.1, ?_, fun z => absurd z hS1⟩
      by_cases e : (d i).toInt ≤ (G : Int)
      · have := c' m g2 g3
        exact (hn i g1 ⟨by omega, Or.inr ⟨w.2.1, e⟩⟩ (fun s => w.2.2 s e)).elim
      · omega
/-- what lies in the mirror beside the record that is sent -/
theorem hp_key {D E U G c0 c1 s : Nat} {S S1 : Prop} {o k b d : Nat → Int32} {x y z : Int32}
    (h : hp_J D E U G c0 c1 S S1 o k b d x y z) (hs : S) (hc : s < c0) (hdue : hp_due U G b d s)
    (hmin : ∀ i, i < c0 → hp_due U G b d i → (S1 → hp_past o k b x y z i) → i = s ∨ hp_past o k b (o s) (k s) (b s) i) (w : Int32)
    (hw1 : (d s).toInt ≤ (G : Int) → w.toInt = (d s).toInt) :
    ∀ m, 100 ≤ m → m < 100 + c1 → o s = o m → k s = k m →
      ((b m).toInt < (b s).toInt → (d m).toInt ≠ 0 ∧ (d m).toInt ≤ (b s).toInt) ∧ ((b s).toInt < (b m).toInt → w.toInt ≠ 0 ∧ w.toInt ≤ (b m).toInt) := by
  obtain ⟨a1, a2, a3, a4, a5, a6, a7, a8, a9, a10, a11, a12, a13⟩ := h
  obtain ⟨c, c'⟩ := a6 hs
  intro m g1 g2 g3 g4
  constructor
  · intro g5
    cases a12 m g1 g2 with
    | inr q =>
      have := q.2.2 s hc g3 g4 g5
      exact ⟨q.1, this⟩
    | inl q =>
      obtain ⟨i, q1, q2, q3, q4⟩ := q
      have e : i ≠ s := fun z => by subst z; omega
      have r1 := a9 i s (by omega) (by omega) (by omega) (by omega) e (q2.trans g3.symm) (q3.trans g4.symm)
      have r2 := c' m g1 g2
      obtain ⟨d1, d2⟩ := hdue
      cases a13 i m q1 g1 g2 q2 q3 q4 with
      | inl p => omega
      | inr p =>
        have e2 : (d i).toInt ≤ (G : Int) := by omega
        cases hmin i q1 ⟨by omega, Or.inr ⟨p.2.1, e2⟩⟩ (fun s => p.2.2 s e2) with
        | inl z => exact absurd z e
        | inr z =>
          unfold hp_past at z
          rw [q2.trans g3.symm, q3.trans g4.symm] at z
          omega
  · intro g5
    have r1 := a11 s m hc g1 g2 g3 g4 g5
    have r2 := c' m g1 g2
    have r3 := hw1 (by omega)
    omega
theorem hp_send3 {D E U G c0 c1 s i : Nat} {S S1 S1' : Prop} {o k b d : Nat → Int32} {x y z : Int32}
    (h : hp_J D E U G c0 c1 S S1 o k b d x y z) (hs : S)
    (hmin : ∀ i, i < c0 → hp_due U G b d i → (S1 → hp_past o k b x y z i) → i = s ∨ hp_past o k b (o s) (k s) (b s) i)
    (hi : i < c0) (e : i ≠ s) {m : Nat} (g2 : 100 ≤ m) (g3 : m < 100 + c1) (g4 : o i = o m) (g5 : k i = k m) (g6 : (b i).toInt = (b m).toInt) :
    (d m).toInt = (d i).toInt ∨ ((d m).toInt = 0 ∧ (U : Int) < (d i).toInt ∧ (S1' → (d i).toInt ≤ (G : Int) → hp_past o k b (o s) (k s) (b s) i)) := by
  obtain ⟨a1, a2, a3, a4, a5, a6, a7, a8, a9, a10, a11, a12, a13⟩ := h
  obtain ⟨c, c'⟩ := a6 hs
  cases a13 i m hi g2 g3 g4 g5 g6 with
  | inl q => exact Or.inl q
  | inr q =>
    refine Or.inr ⟨q.1, q.2.1, fun _ hg => ?_⟩
    have := c' m g2 g3
    cases hmin i hi ⟨by omega, Or.inr ⟨q.2.1, hg⟩⟩ (fun s => q.2.2 s hg) with
    | inl z => exact absurd z e
    | inr z => exact z
theorem hp_sendT {D E U G c0 c1 s t : Nat} {S S1 S1' : Prop} {o k b d d' : Nat → Int32} {x y z : Int32}
    (h : hp_J D E U G c0 c1 S S1 o k b d x y z) (hs : S) (hc : s < c0) (hdue : hp_due U G b d s)
    (hmin : ∀ i, i < c0 → hp_due U G b d i → (S1 → hp_past o k b x y z i) → i = s ∨ hp_past o k b (o s) (k s) (b s) i)
    (t1 : 100 ≤ t) (t2 : t < 100 + c1) (t3 : o t = o s) (t4 : k t = k s) (t5 : b t = b s)
    (hw1 : (d s).toInt ≤ (G : Int) → (d' t).toInt = (d s).toInt) (hw2 : ¬ (d s).toInt ≤ (G : Int) → (d' t).toInt = 0)
    (jd : ∀ i, i ≠ t → d' i = d i) :
    hp_J D E U G c0 c1 S S1' o k b d' (o s) (k s) (b s) := by
  have hk := hp_key h hs hc hdue hmin (d' t) hw1
  have h3 := fun i (hi : i < c0) (e : i ≠ s) => @hp_send3 D E U G c0 c1 s i S S1 S1' o k b d x y z h hs hmin hi e
  obtain ⟨a1, a2, a3, a4, a5, a6, a7, a8, a9, a10, a11, a12, a13⟩ := h
  have ts := a7 s (by omega) (by omega)
  have tu := (a6 hs).1
  refine ⟨a1, a2, a3, a4, a5, a6, ?_, ?_, ?_, ?_, ?_, ?_, ?_⟩
  · intro i g1 g2
    rw [jd i (by omega)]; exact a7 i g1 g2
  · intro i g1 g2
    have := a8 i g1 g2
    by_cases e : i = t
    · subst e; omega
    · rw [jd i e]; exact this
  · intro i j g1 g2
    rw [jd i (by omega)]; exact a9 i j g1 g2
  · intro i j g1 g2 g3 g4 g5 g6 g7
    have r := a10 i j g1 g2 g3 g4 g5 g6 g7
    by_cases e : i = t
    · subst e
      refine ⟨r.1, fun z => ?_⟩
      rw [t5] at z
      exact (hk j g3 g4 (t3.symm.trans g6) (t4.symm.trans g7)).2 z
    · rw [jd i e]; exact r
  · intro i m g1 g2 g3
    rw [jd i (by omega)]; exact a11 i m g1 g2 g3
  · intro m g1 g2
    by_cases e : m = t
    · subst e
      exact Or.inl ⟨s, hc, t3.symm, t4.symm, by rw [t5]⟩
    · rw [jd m e]; exact a12 m g1 g2
  · intro i m g1 g2 g3 g4 g5 g6
    rw [jd i (by omega)]
    by_cases e : i = s
    · subst e
      by_cases e2 : m = t
      · subst e2
        by_cases z : (d i).toInt ≤ (G : Int)
        · exact Or.inl (hw1 z)
        · exact Or.inr ⟨hw2 z, by omega, fun _ y => absurd y z⟩
      · have := a10 m t g2 g3 t1 t2 e2 (g4.symm.trans t3.symm) (g5.symm.trans t4.symm)
        rw [t5] at this
        omega
    · have e2 : m ≠ t := by
        intro z
        subst z
        have := a9 i s (by omega) (by omega) (by omega) (by omega) e (g4.trans t3) (g5.trans t4)
        rw [t5] at g6
        omega
      rw [jd m e2]
      exact h3 i g1 e g2 g3 g4 g5 g6
theorem hp_sendA {D E U G c0 c1 s : Nat} {S S1 S1' : Prop} {o k b d o' k' b' d' : Nat → Int32} {x y z : Int32}
    (h : hp_J D E U G c0 c1 S S1 o k b d x y z) (hs : S) (hc : s < c0) (hdue : hp_due U G b d s)
    (hmin : ∀ i, i < c0 → hp_due U G b d i → (S1 → hp_past o k b x y z i) → i = s ∨ hp_past o k b (o s) (k s) (b s) i)
    (hc1 : c1 < 100) (hn : ∀ m, 100 ≤ m → m < 100 + c1 → o m = o s → k m = k s → (b m).toInt ≠ (b s).toInt)
    (t3 : o' (100 + c1) = o s) (t4 : k' (100 + c1) = k s) (t5 : b' (100 + c1) = b s)
    (hw1 : (d s).toInt ≤ (G : Int) → (d' (100 + c1)).toInt = (d s).toInt) (hw2 : ¬ (d s).toInt ≤ (G : Int) → (d' (100 + c1)).toInt = 0)
    (jo : ∀ i, i ≠ 100 + c1 → o' i = o i) (jk : ∀ i, i ≠ 100 + c1 → k' i = k i) (jb : ∀ i, i ≠ 100 + c1 → b' i = b i) (jd : ∀ i, i ≠ 100 + c1 → d' i = d i) :
    hp_J D E U G c0 (c1 + 1) S S1' o' k' b' d' (o s) (k s) (b s) := by
  have hk := hp_key h hs hc hdue hmin (d' (100 + c1)) hw1
  have h3 := fun i (hi : i < c0) (e : i ≠ s) => @hp_send3 D E U G c0 c1 s i S S1 S1' o k b d x y z h hs hmin hi e
  obtain ⟨a1, a2, a3, a4, a5, a6, a7, a8, a9, a10, a11, a12, a13⟩ := h
  have ts := a7 s (by omega) (by omega)
  obtain ⟨d1, d2⟩ := hdue
  refine ⟨a1, by omega, a3, a4, a5, ?_, ?_, ?_, ?_, ?_, ?_, ?_, ?_⟩
  · intro q
    refine ⟨(a6 q).1, fun m g1 g2 => ?_⟩
    by_cases e : m = 100 + c1
    · rw [e, t5]; exact d1
    · rw [jb m e]; exact (a6 q).2 m g1 (by omega)
  · intro i g1 g2
    rw [jb i (by omega), jd i (by omega)]; exact a7 i g1 g2
  · intro i g1 g2
    by_cases e : i = 100 + c1
    · subst e
      rw [t5]
      omega
    · rw [jb i e, jd i e]; exact a8 i g1 (by omega)
  · intro i j g1 g2 g3 g4
    rw [jo i (by omega), jo j (by omega), jk i (by omega), jk j (by omega), jb i (by omega), jb j (by omega), jd i (by omega)]
    exact a9 i j g1 g2 g3 g4
  · intro i j g1 g2 g3 g4 g5
    by_cases e : i = 100 + c1
    · have e2 : j ≠ 100 + c1 := by omega
      rw [e, t3, t4, t5, jo j e2, jk j e2, jb j e2]
      intro g6 g7
      have r := hn j g3 (by omega) g6.symm g7.symm
      exact ⟨fun z => r z.symm, (hk j g3 (by omega) g6 g7).2⟩
    · by_cases e2 : j = 100 + c1
      · rw [e2, t3, t4, t5, jo i e, jk i e, jb i e, jd i e]
        intro g6 g7
        exact ⟨hn i g1 (by omega) g6 g7, (hk i g1 (by omega) g6.symm g7.symm).1⟩
      · rw [jo i e, jk i e, jb i e, jd i e, jo j e2, jk j e2, jb j e2]
        exact a10 i j g1 (by omega) g3 (by omega) g5
  · intro i m g1 g2 g3
    rw [jo i (by omega), jk i (by omega), jb i (by omega), jd i (by omega)]
    by_cases e : m = 100 + c1
    · rw [e, t3, t4, t5]
      intro g4 g5 g6
      have e3 : i ≠ s := fun z => by subst z; omega
      exact (a9 i s (by omega) (by omega) (by omega) (by omega) e3 g4 g5).2 g6
    · rw [jo m e, jk m e, jb m e]
      exact a11 i m g1 g2 (by omega)
  · intro m g1 g2
    by_cases e : m = 100 + c1
    · refine Or.inl ⟨s, hc, ?_⟩
      rw [e, t3, t4, t5, jo s (by omega), jk s (by omega), jb s (by omega)]
      exact ⟨rfl, rfl, rfl⟩
    · rw [jo m e, jk m e, jb m e, jd m e]
      cases a12 m g1 (by omega) with
      | inl w =>
        obtain ⟨i, w1, w2⟩ := w
        refine Or.inl ⟨i, w1, ?_⟩
        rw [jo i (by omega), jk i (by omega), jb i (by omega)]; exact w2
      | inr w =>
        refine Or.inr ⟨w.1, w.2.1, fun i p1 => ?_⟩
        rw [jo i (by omega), jk i (by omega), jb i (by omega)]
        exact w.2.2 i p1
  · intro i m g1 g2 g3
    unfold hp_past
    rw [jo i (by omega), jk i (by omega), jb i (by omega), jd i (by omega)]
    by_cases e : m = 100 + c1
    · rw [e, t3, t4, t5]
      intro g4 g5 g6
      by_cases e3 : i = s
      · subst e3
        by_cases z : (d i).toInt ≤ (G : Int)
        · exact Or.inl (hw1 z)
        · exact Or.inr ⟨hw2 z, by omega, fun _ y => absurd y z⟩
      · have := a9 i s (by omega) (by omega) (by omega) (by omega) e3 g4 g5
        omega
    · rw [jo m e, jk m e, jb m e, jd m e]
      intro g4 g5 g6
      by_cases e3 : i = s
      · subst e3
        exact absurd g6.symm (hn m g2 (by omega) g4.symm g5.symm)
      · exact h3 i g1 e3 g2 (by omega) g4 g5 g6
