/-- the moment at cell k has become as that at a -/
def CpM (h h' : aH) (k a : Nat) : Prop := (∀ c, c ≠ k → c ≠ k + 1 → h' c = h c) ∧ h' k 1 = h a 1 ∧ h' k 2 = h a 2 ∧ ∀ i, 0 ≤ i → i < 16 → h' (k + 1) i = h (a + 1) i
theorem sp_copyFrom {k a : Nat} {h : aH} {Q : aH → Prop} (h1 : a ≠ k) (h2 : a ≠ k + 1) (kk : ∀ h', CpM h h' k a → Q h') : wp_X4_copyFrom k a h Q := by
  unfold wp_X4_copyFrom
  rintro _ rfl
  rintro _ rfl
  rintro _ rfl
  have e : ∀ c, c ≠ k + 1 → cpy h (a + 1) 0 (k + 1) 0 16 c = h c := fun c hc => by
    funext i
    unfold cpy
    rw [if_neg (fun q => hc q.1)]
  refine kk _ ⟨fun c c1 c2 => by rw [up_ne c1, up_ne c1, e c c2], ?_, ?_, fun i i0 i1 => ?_⟩
  · rw [up_eq, if_neg (by decide), up_eq, if_pos rfl, e a h2]
  · rw [up_eq, if_pos rfl, up_ne h1, e a h2]
  · rw [up_ne (by omega), up_ne (by omega)]
    unfold cpy
    rw [if_pos ⟨rfl, i0, by omega⟩]
    congr 1
    omega
def PushC (h h' : aH) : Prop := (∀ k, k ≠ 15 → k ≠ 17 + 2 * (h 15 1).toNat → k ≠ 18 + 2 * (h 15 1).toNat → h' k = h k) ∧ h' 15 1 = (h 15 1 + 1) % 10 ∧ h' 15 2 = min 10 (h 15 2 + 1) ∧ h' (17 + 2 * (h 15 1).toNat) 1 = h 13 1 ∧ h' (17 + 2 * (h 15 1).toNat) 2 = h 13 2 ∧ ∀ i, 0 ≤ i → i < 16 → h' (18 + 2 * (h 15 1).toNat) i = h 14 i
theorem sp_push {h : aH} {Q : aH → Prop} (b1 : 0 ≤ h 15 1 ∧ h 15 1 < 10) (b2 : 0 ≤ h 15 2 ∧ h 15 2 ≤ 10) (kk : ∀ h', PushC h h' → Q h') : wp_X2_push h Q := by
  unfold wp_X2_push
  refine ⟨b1, sp_copyFrom (by omega) (by omega) (fun h' c => ?_)⟩
  obtain ⟨c1, c2, c3, c4⟩ := c
  have e15 : h' 15 = h 15 := c1 15 (by omega) (by omega)
  rw [e15]
  refine ⟨⟨by omega, by omega⟩, ?_⟩
  rintro _ rfl
  have e2 : up h' 15 1 ((h 15 1 + 1) % 10) 15 2 = h 15 2 := by rw [up_eq, if_neg (by decide), e15]
  rw [e2]
  refine ⟨inR_of (by omega) (by omega), ?_⟩
  rintro _ rfl
  refine kk _ ⟨fun k k1 k2 k3 => by rw [up_ne k1, up_ne k1, c1 k k2 (by omega)], ?_, ?_, ?_, ?_, fun i i0 i1 => ?_⟩
  · rw [up_eq, if_neg (by decide), up_eq, if_pos rfl]
  · rw [up_eq, if_pos rfl]
  · rw [up_ne (by omega), up_ne (by omega), c2]
  · rw [up_ne (by omega), up_ne (by omega), c3]
  · rw [up_ne (by omega), up_ne (by omega), show 18 + 2 * (h 15 1).toNat = 17 + 2 * (h 15 1).toNat + 1 by omega, c4 i i0 i1]
/-- the reference's row of what can be undone, one more noted -/
def NoteR (sz : Int) (s u u' : Int → Int) : Prop := (∀ i, 0 ≤ i → i < 23 → u' (23 * (min 10 (sz + 1) - 1) + i) = s i) ∧ ∀ j i, 0 ≤ j → j < min 10 (sz + 1) - 1 → 0 ≤ i → i < 23 → u' (23 * j + i) = u (23 * (j + (sz + 1 - min 10 (sz + 1))) + i)
def PushM (h h' : aH) : Prop := (∀ k, k ≠ 59 → k ≠ 69 → h' k = h k) ∧ (∀ j, ¬ j = 18 → h' 59 j = h 59 j) ∧ h' 59 18 = min 10 (h 59 18 + 1) ∧ NoteR (h 59 18) (h 66) (h 69) (h' 69)
theorem sp_notes1 {h : aH} {Q : aH → Prop} (m : Int) (hm : h 59 18 = m) (b : 0 ≤ m ∧ m ≤ 9) (kk : ∀ h', (∀ k, k ≠ 59 → k ≠ 69 → h' k = h k) → (∀ j, ¬ j = 18 → h' 59 j = h 59 j) → h' 59 18 = m + 1 → (∀ i, 0 ≤ i → i < 23 → h' 69 (23 * m + i) = h 66 i) → (∀ i, 0 ≤ i → i < 23 * m → h' 69 i = h 69 i) → Q h') : wp_X9_notes_J45 Q h := by
  unfold wp_X9_notes_J45
  refine lp.rule (μ := fun y => (24 - y.1).toNat) (I := fun y => (0 ≤ y.1 ∧ y.1 ≤ 23) ∧ (∀ k, k ≠ 69 → y.2 k = h k) ∧ (∀ i, 0 ≤ i → i < y.1 → y.2 69 (23 * m + i) = h 66 i) ∧ (∀ i, 0 ≤ i → i < 23 * m → y.2 69 i = h 69 i)) ?_ (0, h) ⟨⟨by omega, by omega⟩, fun _ _ => rfl, fun i i0 i1 => absurd (show i < 0 from i1) (by omega), fun _ _ _ => rfl⟩
  rintro X ⟨n, g⟩ ⟨⟨n0, n1⟩, g1, g2, g3⟩ hX
  dsimp only at n0 n1 g1 g2 g3 ⊢
  unfold wp_X9_notes_B47
  rw [g1 59 (by decide), hm, g1 66 (by decide)]
  refine ⟨inR_of (by omega) (by omega), fun q => ?_, fun q => ⟨⟨by omega, by omega⟩, ⟨by omega, by omega⟩, ?_⟩⟩
  · rintro _ rfl
    refine kk _ (fun k k1 k2 => by rw [up_ne k1, g1 k k2]) (fun j hj => by rw [up_eq, if_neg hj, g1 59 (by decide)]) (by rw [up_eq, if_pos rfl]) (fun i i0 i1 => ?_) (fun i i0 i1 => ?_)
    · rw [up_ne (by decide)]; exact g2 i i0 (by omega)
    · rw [up_ne (by decide)]; exact g3 i i0 i1
  · rintro _ rfl
    refine hX _ ⟨⟨by dsimp only; omega, by dsimp only; omega⟩, fun k hk => ?_, fun i i0 i1 => ?_, fun i i0 i1 => ?_⟩ (by dsimp only; omega)
    · dsimp only; rw [up_ne hk, g1 k hk]
    · dsimp only at i1 ⊢
      rw [up_eq]
      by_cases hi : i = n
      · rw [if_pos (by omega), hi]
      · rw [if_neg (by omega)]; exact g2 i i0 (by omega)
    · dsimp only
      rw [up_eq, if_neg (by omega)]
      exact g3 i i0 i1
theorem sp_notes {h : aH} {Q : aH → Prop} (b : 0 ≤ h 59 18 ∧ h 59 18 ≤ 10) (kk : ∀ h', PushM h h' → Q h') : wp_X9_notes h Q := by
  unfold wp_X9_notes
  refine ⟨inR_of (by omega) (by omega), fun q => ?_, fun q => ?_⟩
  · refine lp.rule (μ := fun y => (208 - y.1).toNat) (I := fun y => (0 ≤ y.1 ∧ y.1 ≤ 207) ∧ (∀ k, k ≠ 69 → y.2 k = h k) ∧ (∀ i, 0 ≤ i → i < y.1 → y.2 69 i = h 69 (i + 23)) ∧ (∀ i, y.1 ≤ i → y.2 69 i = h 69 i)) ?_ (0, h) ⟨⟨by omega, by omega⟩, fun _ _ => rfl, fun i i0 i1 => absurd (show i < 0 from i1) (by omega), fun _ _ => rfl⟩
    rintro X ⟨n, g⟩ ⟨⟨n0, n1⟩, g1, g2, g3⟩ hX
    dsimp only at n0 n1 g1 g2 g3 ⊢
    unfold wp_X9_notes_B11
    refine ⟨inR_of (by omega) (by omega), fun q2 => ?_, fun q2 => ⟨⟨by omega, by omega⟩, ⟨by omega, by omega⟩, ?_⟩⟩
    · rintro _ rfl
      refine sp_notes1 9 (by rw [up_eq, if_pos rfl]) (by omega) (fun h' a1 a2 a3 a4 a5 => kk h' ⟨fun k k1 k2 => by rw [a1 k k1 k2, up_ne k1, g1 k k2], fun j hj => by rw [a2 j hj, up_eq, if_neg hj, g1 59 (by decide)], by rw [a3]; omega, fun i i0 i1 => ?_, fun j i j0 j1 i0 i1 => ?_⟩)
      · rw [show min 10 (h 59 18 + 1) - 1 = 9 by omega, a4 i i0 i1, up_ne (by decide), g1 66 (by decide)]
      · rw [a5 _ (by omega) (by omega), up_ne (by decide), g2 _ (by omega) (by omega), show min 10 (h 59 18 + 1) = 10 by omega]
        congr 1
        omega
    · rintro _ rfl
      refine hX _ ⟨⟨by dsimp only; omega, by dsimp only; omega⟩, fun k hk => ?_, fun i i0 i1 => ?_, fun i i0 => ?_⟩ (by dsimp only; omega)
      · dsimp only; rw [up_ne hk, g1 k hk]
      · dsimp only at i1 ⊢
        rw [up_eq]
        by_cases hi : i = n
        · rw [if_pos hi, hi, g3 _ (by omega)]
        · rw [if_neg hi]; exact g2 i i0 (by omega)
      · dsimp only at i0 ⊢
        rw [up_eq, if_neg (by omega)]
        exact g3 i (by omega)
  · refine sp_notes1 (h 59 18) rfl (by omega) (fun h' a1 a2 a3 a4 a5 => kk h' ⟨a1, a2, by rw [a3]; omega, fun i i0 i1 => ?_, fun j i j0 j1 i0 i1 => ?_⟩)
    · rw [show min 10 (h 59 18 + 1) - 1 = h 59 18 by omega]; exact a4 i i0 i1
    · rw [a5 _ (by omega) (by omega)]
      congr 1
      omega
/-- both have noted the moment -/
theorem IU_push {h h' hc : aH} {u' : Int → Int} (iu : IU h) (im : MR (h 3 4) (h 13 1) (h 13 2) (h 14) (h 66)) (pc : PushC h hc) (hr : NoteR (h 15 2) (h 66) (h 69) u') (e0 : h' 3 4 = h 3 4) (e1 : h' 15 = hc 15) (e2 : ∀ k, 17 ≤ k → k ≤ 36 → h' k = hc k) (e3 : h' 59 18 = min 10 (h 15 2 + 1)) (e4 : h' 69 = u') : IU h' := by
  obtain ⟨a, b, c, d⟩ := iu
  obtain ⟨p1, p2, p3, p4, p5, p6⟩ := pc
  unfold IU
  rw [e0, e1, e3, e4, p2, p3]
  refine ⟨by omega, by omega, rfl, fun j j0 j1 => ?_⟩
  by_cases hj : j = min 10 (h 15 2 + 1) - 1
  · have er : rpos ((h 15 1 + 1) % 10) (min 10 (h 15 2 + 1)) j = (h 15 1).toNat := by unfold rpos; omega
    rw [er, e2 _ (by omega) (by omega), e2 _ (by omega) (by omega), p4, p5]
    exact im.cong p6 (fun i i0 i1 => by rw [hj]; exact hr.1 i i0 i1)
  · have j' : 0 ≤ j + (h 15 2 + 1 - min 10 (h 15 2 + 1)) ∧ j + (h 15 2 + 1 - min 10 (h 15 2 + 1)) < h 15 2 := by omega
    have er : rpos ((h 15 1 + 1) % 10) (min 10 (h 15 2 + 1)) j = rpos (h 15 1) (h 15 2) (j + (h 15 2 + 1 - min 10 (h 15 2 + 1))) := by
      unfold rpos
      congr 1
      omega
    have en : rpos (h 15 1) (h 15 2) (j + (h 15 2 + 1 - min 10 (h 15 2 + 1))) ≠ (h 15 1).toNat := by
      unfold rpos
      omega
    have el : rpos (h 15 1) (h 15 2) (j + (h 15 2 + 1 - min 10 (h 15 2 + 1))) < 10 := by unfold rpos; omega
    have d1 := d _ j'.1 j'.2
    rw [er]
    generalize rpos (h 15 1) (h 15 2) (j + (h 15 2 + 1 - min 10 (h 15 2 + 1))) = r at en el d1
    rw [e2 (17 + 2 * r) (by omega) (by omega), e2 (18 + 2 * r) (by omega) (by omega), p1 (17 + 2 * r) (by omega) (by omega) (by omega), p1 (18 + 2 * r) (by omega) (by omega) (by omega)]
    exact d1.cong (fun _ _ _ => rfl) (fun i i0 i1 => hr.2 j i j0 (by omega) i0 i1)
theorem Inv.now {c : Int} {h h' : aH} (i : Inv c h) (hk : ∀ k, ¬ (13 ≤ k ∧ k ≤ 36 ∧ k ≠ 16) → k ≠ 59 → k ≠ 66 → k ≠ 69 → h' k = h k) (h1 : h' 59 1 = h 59 1) (h3 : h' 59 3 = h 59 3) (h22 : h' 59 22 = h 59 22) (h25 : h' 59 25 = h 59 25) (im : MR (h 3 4) (h' 13 1) (h' 13 2) (h' 14) (h' 66)) (iu : IU h') : Inv (c + 1) h' := by
  have s : ∀ k, ¬ (13 ≤ k ∧ k ≤ 36 ∧ k ≠ 16) ∧ k ≠ 59 ∧ k ≠ 66 ∧ k ≠ 69 → h' k = h k := fun k q => hk k q.1 q.2.1 q.2.2.1 q.2.2.2
  obtain ⟨i1, i2, i3, i4, i5, i6, i7, i8, i9, i10, i11⟩ := i
  refine ⟨i1.fr (by rw [s 1 (by omega)]) h3 (s 2 (by omega)) (s 60 (by omega)), i2.fr (by rw [s 3 (by omega)]) (by rw [s 3 (by omega)]) (s 61 (by omega)) (s 4 (by omega)) (s 62 (by omega)) (s 6 (by omega)) (s 64 (by omega)) (s 7 (by omega)) (s 65 (by omega)), by rw [s 3 (by omega)]; exact im, iu, i5.fr (by rw [s 3 (by omega)]) (s 42 (by omega)) (s 68 (by omega)) (s 67 (by omega)) (s 38 (by omega)) (s 39 (by omega)) (s 40 (by omega)) (s 41 (by omega)), i6.fr (by rw [s 52 (by omega)]) (by rw [s 52 (by omega)]) h22 h25 (fun k q1 q2 => s k (by omega)) (fun k q1 q2 => s k (by omega)), ?_, ?_, ?_, ?_, ?_⟩
  · rw [s 52 (by omega), s 4 (by omega), s 58 (by omega)]; exact i7
  · rw [s 43 (by omega), s 44 (by omega)]; exact i8
  · rw [s 3 (by omega), s 76 (by omega), s 77 (by omega)]; exact i9
  · rw [s 3 (by omega), s 7 (by omega), s 48 (by omega)]; exact i10
  · rw [s 0 (by omega), h1]; exact i11.up (by omega)
