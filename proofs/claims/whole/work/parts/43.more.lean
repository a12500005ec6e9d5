theorem Inv.txt {c : Int} {h h' : aH} (i : Inv c h) (hk : ∀ k, k ≠ 1 → k ≠ 2 → k ≠ 59 → k ≠ 60 → h' k = h k) (h1 : h' 59 1 = h 59 1) (h18 : h' 59 18 = h 59 18) (h22 : h' 59 22 = h 59 22) (h25 : h' 59 25 = h 59 25) (it : IT h') : Inv (c + 1) h' := by
  have s : ∀ k, k ≠ 1 ∧ k ≠ 2 ∧ k ≠ 59 ∧ k ≠ 60 → h' k = h k := fun k q => hk k q.1 q.2.1 q.2.2.1 q.2.2.2
  obtain ⟨i1, i2, i3, i4, i5, i6, i7, i8, i9, i10, i11⟩ := i
  refine ⟨it, i2.fr (by rw [s 3 (by omega)]) (by rw [s 3 (by omega)]) (s 61 (by omega)) (s 4 (by omega)) (s 62 (by omega)) (s 6 (by omega)) (s 64 (by omega)) (s 7 (by omega)) (s 65 (by omega)), ?_, i4.fr (by rw [s 3 (by omega)]) (by rw [s 15 (by omega)]) (by rw [s 15 (by omega)]) h18 (s 69 (by omega)) (fun k q1 q2 => s k (by omega)), i5.fr (by rw [s 3 (by omega)]) (s 42 (by omega)) (s 68 (by omega)) (s 67 (by omega)) (s 38 (by omega)) (s 39 (by omega)) (s 40 (by omega)) (s 41 (by omega)), i6.fr (by rw [s 52 (by omega)]) (by rw [s 52 (by omega)]) h22 h25 (fun k q1 q2 => s k (by omega)) (fun k q1 q2 => s k (by omega)), ?_, ?_, ?_, ?_, ?_⟩
  · rw [s 3 (by omega), s 13 (by omega), s 14 (by omega), s 66 (by omega)]; exact i3
  · rw [s 52 (by omega), s 4 (by omega), s 58 (by omega)]; exact i7
  · rw [s 43 (by omega), s 44 (by omega)]; exact i8
  · rw [s 3 (by omega), s 76 (by omega), s 77 (by omega)]; exact i9
  · rw [s 3 (by omega), s 7 (by omega), s 48 (by omega)]; exact i10
  · rw [s 0 (by omega), h1]; exact i11.up (by omega)
theorem Inv.rec {c : Int} {h h' : aH} (i : Inv c h) (hk : ∀ k, ¬ (52 ≤ k ∧ k ≤ 57) → k ≠ 59 → ¬ (70 ≤ k ∧ k ≤ 74) → h' k = h k) (h6 : h' 52 6 = h 52 6) (h1 : h' 59 1 = h 59 1) (h3 : h' 59 3 = h 59 3) (h18 : h' 59 18 = h 59 18) (ie : IE h') : Inv (c + 1) h' := by
  have s : ∀ k, ¬ (52 ≤ k ∧ k ≤ 57) ∧ k ≠ 59 ∧ ¬ (70 ≤ k ∧ k ≤ 74) → h' k = h k := fun k q => hk k q.1 q.2.1 q.2.2
  obtain ⟨i1, i2, i3, i4, i5, i6, i7, i8, i9, i10, i11⟩ := i
  refine ⟨i1.fr (by rw [s 1 (by omega)]) h3 (s 2 (by omega)) (s 60 (by omega)), i2.fr (by rw [s 3 (by omega)]) (by rw [s 3 (by omega)]) (s 61 (by omega)) (s 4 (by omega)) (s 62 (by omega)) (s 6 (by omega)) (s 64 (by omega)) (s 7 (by omega)) (s 65 (by omega)), ?_, i4.fr (by rw [s 3 (by omega)]) (by rw [s 15 (by omega)]) (by rw [s 15 (by omega)]) h18 (s 69 (by omega)) (fun k q1 q2 => s k (by omega)), i5.fr (by rw [s 3 (by omega)]) (s 42 (by omega)) (s 68 (by omega)) (s 67 (by omega)) (s 38 (by omega)) (s 39 (by omega)) (s 40 (by omega)) (s 41 (by omega)), ie, ?_, ?_, ?_, ?_, ?_⟩
  · rw [s 3 (by omega), s 13 (by omega), s 14 (by omega), s 66 (by omega)]; exact i3
  · rw [h6, s 4 (by omega), s 58 (by omega)]; exact i7
  · rw [s 43 (by omega), s 44 (by omega)]; exact i8
  · rw [s 3 (by omega), s 76 (by omega), s 77 (by omega)]; exact i9
  · rw [s 3 (by omega), s 7 (by omega), s 48 (by omega)]; exact i10
  · rw [s 0 (by omega), h1]; exact i11.up (by omega)
theorem Inv.tr {c t : Int} {h h' : aH} (i : Inv c h) (hk : ∀ k, k ≠ 0 → k ≠ 59 → h' k = h k) (h3 : h' 59 3 = h 59 3) (h18 : h' 59 18 = h 59 18) (h22 : h' 59 22 = h 59 22) (h25 : h' 59 25 = h 59 25) (ht : 0 ≤ t ∧ t ≤ 100001) (h0 : h' 0 11 = h 0 11 + t) (h1 : h' 59 1 = h 59 1 + t) : Inv (c + 1) h' := by
  have s : ∀ k, k ≠ 0 ∧ k ≠ 59 → h' k = h k := fun k q => hk k q.1 q.2
  obtain ⟨i1, i2, i3, i4, i5, i6, i7, i8, i9, i10, i11⟩ := i
  refine ⟨i1.fr (by rw [s 1 (by omega)]) h3 (s 2 (by omega)) (s 60 (by omega)), i2.fr (by rw [s 3 (by omega)]) (by rw [s 3 (by omega)]) (s 61 (by omega)) (s 4 (by omega)) (s 62 (by omega)) (s 6 (by omega)) (s 64 (by omega)) (s 7 (by omega)) (s 65 (by omega)), ?_, i4.fr (by rw [s 3 (by omega)]) (by rw [s 15 (by omega)]) (by rw [s 15 (by omega)]) h18 (s 69 (by omega)) (fun k q1 q2 => s k (by omega)), i5.fr (by rw [s 3 (by omega)]) (s 42 (by omega)) (s 68 (by omega)) (s 67 (by omega)) (s 38 (by omega)) (s 39 (by omega)) (s 40 (by omega)) (s 41 (by omega)), i6.fr (by rw [s 52 (by omega)]) (by rw [s 52 (by omega)]) h22 h25 (fun k q1 q2 => s k (by omega)) (fun k q1 q2 => s k (by omega)), ?_, ?_, ?_, ?_, ?_⟩
  · rw [s 3 (by omega), s 13 (by omega), s 14 (by omega), s 66 (by omega)]; exact i3
  · rw [s 52 (by omega), s 4 (by omega), s 58 (by omega)]; exact i7
  · rw [s 43 (by omega), s 44 (by omega)]; exact i8
  · rw [s 3 (by omega), s 76 (by omega), s 77 (by omega)]; exact i9
  · rw [s 3 (by omega), s 7 (by omega), s 48 (by omega)]; exact i10
  · have := i11.1
    have := i11.2.1
    have := i11.2.2
    rw [h0, h1]
    exact ⟨by omega, by omega, by omega⟩
theorem up_cg {a b : aH} {k : Nat} {i x : Int} (e : a k = b k) : up a k i x k = up b k i x k := by rw [up_row, up_row, if_pos rfl, if_pos rfl, e]
-- type, clear
theorem S_type {c x : Int} {h : aH} {K : aH → Prop} (i : Inv c h) (hx : inR x) (hK : ∀ h', Inv (c + 1) h' → K h') : wp_X8_type x h (fun r h1 => wp_X9_type x h1 (fun r2 h2 => inR r ∧ inR r2 ∧ ((r = r2 → K h2) ∧ (¬ r = r2 → False)))) := by
  obtain ⟨t1, t2, t3, t4⟩ := i.1
  unfold wp_X8_type
  refine sp_within2 hx inR0 (inR_of (by omega) (by omega)) (fun q => ?_) (fun q1 q2 => ⟨⟨by omega, by omega⟩, ?_⟩)
  · unfold wp_X9_type
    rintro _ rfl
    exact sp_in2 hx inR0 (inR_of (by omega) (by omega)) (fun _ => fin_ok rfl (inR_of (by omega) (by omega)) (hK _ i.thr)) (fun q1 q2 => absurd ⟨q1, q2⟩ q)
  · unfold wp_X6_append
    refine ⟨inR_of (by omega) (by omega), fun q => ⟨⟨by omega, by omega⟩, ⟨by omega, by omega⟩, ?_⟩, fun q => ?_⟩
    · rintro _ rfl
      rintro _ rfl
      rw [if_neg (by decide)]
      unfold wp_X9_type
      rintro _ rfl
      refine sp_in2 hx inR0 (inR_of (by omega) (by omega)) (fun q => absurd ⟨q1, q2⟩ q) (fun _ _ => ?_)
      have e1 : up (up h 2 (h 1 1) x) 1 1 (up h 2 (h 1 1) x 1 1 + 1) 1 1 = h 1 1 + 1 := by rw [up_eq, if_pos rfl, up_ne (by decide)]
      have e3 : up (up (up h 2 (h 1 1) x) 1 1 (up h 2 (h 1 1) x 1 1 + 1)) 59 0 0 59 3 = h 1 1 := by rw [thr59 (by decide), up_ne (by decide), up_ne (by decide)]; exact t1.symm
      rw [e1, e3]
      refine ⟨inR_of (by omega) (by omega), fun z => by omega, fun _ => ⟨⟨by omega, by omega⟩, ?_⟩⟩
      rintro _ rfl
      rintro _ rfl
      have e4 : ∀ (a : aH) (y : Int), up (up a 60 (h 1 1) x) 59 3 y 59 3 = y := fun a y => by rw [up_eq, if_pos rfl]
      rw [e4]
      have e5 : up (up (up (up h 2 (h 1 1) x) 1 1 (up h 2 (h 1 1) x 1 1 + 1)) 59 0 0) 60 (h 1 1) x 59 3 = h 1 1 := by rw [up_ne (by decide)]; exact e3
      rw [e5]
      refine fin_ok rfl (inR_of (by omega) (by omega)) (hK _ (i.txt ?_ ?_ ?_ ?_ ?_ ?_))
      · intro k k1 k2 k3 k4
        rw [up_ne k3, up_ne k4, up_ne k3, up_ne k1, up_ne k2]
      · rw [up_eq, if_neg (by decide), up_ne (by decide), thr59 (by decide), up_ne (by decide), up_ne (by decide)]
      · rw [up_eq, if_neg (by decide), up_ne (by decide), thr59 (by decide), up_ne (by decide), up_ne (by decide)]
      · rw [up_eq, if_neg (by decide), up_ne (by decide), thr59 (by decide), up_ne (by decide), up_ne (by decide)]
      · rw [up_eq, if_neg (by decide), up_ne (by decide), thr59 (by decide), up_ne (by decide), up_ne (by decide)]
      · unfold IT
        rw [e4, up_ne (k' := 1) (by decide), up_ne (k' := 1) (by decide), up_ne (k' := 1) (by decide), e1, up_ne (k' := 2) (by decide), up_ne (k' := 2) (by decide), up_ne (k' := 2) (by decide), up_ne (k' := 2) (by decide), up_ne (k' := 60) (k := 59) (by decide)]
        refine ⟨rfl, by omega, by omega, fun j j0 j1 => ?_⟩
        rw [up_eq, up_eq, up_ne (k' := 60) (by decide), up_ne (k' := 60) (by decide), up_ne (k' := 60) (by decide)]
        by_cases hj : j = h 1 1
        · rw [if_pos hj, if_pos hj]; exact ⟨rfl, by omega, by omega⟩
        · rw [if_neg hj, if_neg hj]; exact t4 j j0 (by omega)
    · dsimp only
      rw [if_pos rfl]
      unfold wp_X9_type
      rintro _ rfl
      refine sp_in2 hx inR0 (inR_of (by omega) (by omega)) (fun q => absurd ⟨q1, q2⟩ q) (fun _ _ => ?_)
      rw [thr59 (by decide), ← t1]
      exact ⟨inR_of (by omega) (by omega), fun _ => fin_ok rfl (inR_of (by omega) (by omega)) (hK _ i.thr), fun z => by omega⟩
theorem S_clear {c : Int} {h : aH} {K : aH → Prop} (i : Inv c h) (hK : ∀ h', Inv (c + 1) h' → K h') : wp_X8_clear h (fun r h1 => wp_X9_clear h1 (fun r2 h2 => inR r ∧ inR r2 ∧ ((r = r2 → K h2) ∧ (¬ r = r2 → False)))) := by
  obtain ⟨t1, t2, t3, t4⟩ := i.1
  unfold wp_X8_clear wp_X9_clear
  rintro _ rfl
  rintro _ rfl
  rintro _ rfl
  rintro _ rfl
  rintro _ rfl
  refine fin_ok ?_ (inR_of (by omega) (by omega)) (hK _ (i.txt ?_ ?_ ?_ ?_ ?_ ?_))
  · rw [thr59 (by decide), up_ne (by decide)]; exact t1
  · intro k k1 k2 k3 k4
    rw [up_ne k3, up_ne k3, up_ne k1]
  · rw [up_eq, if_neg (by decide), thr59 (by decide), up_ne (by decide)]
  · rw [up_eq, if_neg (by decide), thr59 (by decide), up_ne (by decide)]
  · rw [up_eq, if_neg (by decide), thr59 (by decide), up_ne (by decide)]
  · rw [up_eq, if_neg (by decide), thr59 (by decide), up_ne (by decide)]
  · unfold IT
    rw [up_eq, if_pos rfl, up_ne (k' := 1) (by decide), up_ne (k' := 1) (by decide), up_eq, if_pos rfl]
    exact ⟨rfl, by omega, by omega, fun j j0 j1 => by omega⟩
-- shows, saw, clean
theorem S_shows {c x y z : Int} {h : aH} {K : aH → Prop} (i : Inv c h) (hx : inR x) (hy : inR y) (hz : inR z) (hK : ∀ h', Inv (c + 1) h' → K h') : wp_X8_shows x y z h (fun r h1 => wp_X9_shows x y z h1 (fun r2 h2 => inR r ∧ inR r2 ∧ ((r = r2 → K h2) ∧ (¬ r = r2 → False)))) := by
  have hn := i.2.1.1
  have e0 := i.2.1.2.2.1
  obtain ⟨⟨s1, s2, s3, s4⟩, s5⟩ := i.2.2.2.2.2.1
  have B : ¬ ((0 ≤ x ∧ x < h 3 4) ∧ (0 ≤ y ∧ y ≤ 720) ∧ (0 ≤ z ∧ z ≤ 2)) → wp_X9_shows x y z h (fun r2 h2 => inR (-1) ∧ inR r2 ∧ ((-1 = r2 → K h2) ∧ (¬ -1 = r2 → False))) := by
    intro nq
    unfold wp_X9_shows
    rintro _ rfl
    refine sp_personM hx hn (by rw [up_ne (by decide)]; exact e0) (fun r1 hr1 => ⟨fun h0 => fin_ok rfl (inR_of (by omega) (by omega)) (hK _ i.thr), fun h0 => sp_in2 hy inR0 (inR_of (by omega) (by omega)) (fun _ => fin_ok rfl (inR_of (by omega) (by omega)) (hK _ i.thr)) (fun a1 a2 => sp_in2 hz inR0 (inR_of (by omega) (by omega)) (fun _ => fin_ok rfl (inR_of (by omega) (by omega)) (hK _ i.thr)) (fun b1 b2 => absurd ⟨by omega, ⟨a1, a2⟩, b1, b2⟩ nq))⟩)
  unfold wp_X8_shows
  refine sp_person hx hn (fun r1 hr1 => ⟨fun h0 => B (by omega), fun h0 => sp_within2 hy inR0 (inR_of (by omega) (by omega)) (fun _ => B (by omega)) (fun a1 a2 => sp_within2 hz inR0 (inR_of (by omega) (by omega)) (fun _ => B (by omega)) (fun b1 b2 => ?_))⟩)
  unfold wp_X1_addShown
  refine ⟨inR_of (by omega) (by omega), fun q => ?_, fun q => ?_⟩
  · refine ⟨⟨by omega, by omega⟩, ?_⟩
    rintro h3 rfl
    rw [up_ne (k' := 52) (by decide)]
    refine ⟨⟨by omega, by omega⟩, ?_⟩
    rintro h3 rfl
    rw [up_ne (k' := 52) (by decide), up_ne (k' := 52) (by decide)]
    refine ⟨⟨by omega, by omega⟩, ?_⟩
    rintro h3 rfl
    rw [up_ne (k' := 52) (by decide), up_ne (k' := 52) (by decide), up_ne (k' := 52) (by decide)]
    rintro h3 rfl
    rw [if_neg (by decide), up_eq, if_pos rfl]
    generalize hh : up (up (up (up h 53 (h 52 7) x) 54 (h 52 7) y) 55 (h 52 7) z) 52 7 (h 52 7 + 1) = hC
    have cC : ∀ k, k ≠ 52 → k ≠ 53 → k ≠ 54 → k ≠ 55 → hC k = h k := fun k k1 k2 k3 k4 => by rw [← hh, up_ne k1, up_ne k4, up_ne k3, up_ne k2]
    unfold wp_X9_shows
    rintro h1 rfl
    have e59 : up hC 59 0 0 59 22 = h 52 7 := by rw [thr59 (by decide), cC 59 (by decide) (by decide) (by decide) (by decide)]; exact s1
    refine sp_personM hx hn (by rw [up_ne (by decide), cC 61 (by decide) (by decide) (by decide) (by decide)]; exact e0) (fun r1 hr1 => ⟨fun h0 => absurd h0 (by omega), fun h0 => sp_in2 hy inR0 (inR_of (by omega) (by omega)) (fun q => absurd ⟨a1, a2⟩ q) (fun _ _ => sp_in2 hz inR0 (inR_of (by omega) (by omega)) (fun q => absurd ⟨b1, b2⟩ q) (fun _ _ => ?_))⟩)
    rw [e59]
    refine ⟨inR_of (by omega) (by omega), fun z => by omega, fun _ => ⟨⟨by omega, by omega⟩, ?_⟩⟩
    rintro h3 rfl
    rw [up_ne (k' := 59) (by decide), e59]
    refine ⟨⟨by omega, by omega⟩, ?_⟩
    rintro h3 rfl
    rw [up_ne (k' := 59) (by decide), up_ne (k' := 59) (by decide), e59]
    refine ⟨⟨by omega, by omega⟩, ?_⟩
    rintro h3 rfl
    rw [up_ne (k' := 59) (by decide), up_ne (k' := 59) (by decide), up_ne (k' := 59) (by decide), e59]
    rintro h3 rfl
    rw [up_eq, if_pos rfl]
    generalize hm : up (up (up (up (up hC 59 0 0) 70 (h 52 7) x) 71 (h 52 7) y) 72 (h 52 7) z) 59 22 (h 52 7 + 1) = hM
    have cM : ∀ k, k ≠ 59 → k ≠ 70 → k ≠ 71 → k ≠ 72 → hM k = hC k := fun k k1 k2 k3 k4 => by rw [← hm, up_ne k1, up_ne k4, up_ne k3, up_ne k2, up_ne k1]
    have c59 : ∀ j : Int, ¬ j = 0 → ¬ j = 22 → hM 59 j = h 59 j := fun j j0 j1 => by rw [← hm, up_eq, if_neg j1, up_ne (by decide), up_ne (by decide), up_ne (by decide), thr59 j0, cC 59 (by decide) (by decide) (by decide) (by decide)]
    refine fin_ok rfl (inR_of (by omega) (by omega)) (hK _ (i.rec ?_ ?_ (c59 1 (by decide) (by decide)) (c59 3 (by decide) (by decide)) (c59 18 (by decide) (by decide)) ?_))
    · intro k k1 k2 k3
      rw [cM k k2 (by omega) (by omega) (by omega), cC k (by omega) (by omega) (by omega) (by omega)]
    · rw [cM 52 (by decide) (by decide) (by decide) (by decide), ← hh, up_eq, if_neg (by decide), up_ne (by decide), up_ne (by decide), up_ne (by decide)]
    · refine ⟨?_, ?_⟩
      · have f53 : hM 53 = up h 53 (h 52 7) x 53 := by rw [cM 53 (by decide) (by decide) (by decide) (by decide), ← hh, up_ne (by decide), up_ne (by decide), up_ne (by decide)]
        have f54 : hM 54 = up h 54 (h 52 7) y 54 := by rw [cM 54 (by decide) (by decide) (by decide) (by decide), ← hh, up_ne (by decide), up_ne (by decide)]; exact up_cg (up_ne (by decide))
        have f55 : hM 55 = up h 55 (h 52 7) z 55 := by rw [cM 55 (by decide) (by decide) (by decide) (by decide), ← hh, up_ne (by decide)]; exact up_cg (by rw [up_ne (by decide), up_ne (by decide)])
        have f70 : hM 70 = up h 70 (h 52 7) x 70 := by rw [← hm, up_ne (by decide), up_ne (by decide), up_ne (by decide)]; exact up_cg (by rw [up_ne (by decide), cC 70 (by decide) (by decide) (by decide) (by decide)])
        have f71 : hM 71 = up h 71 (h 52 7) y 71 := by rw [← hm, up_ne (by decide), up_ne (by decide)]; exact up_cg (by rw [up_ne (by decide), up_ne (by decide), cC 71 (by decide) (by decide) (by decide) (by decide)])
        have f72 : hM 72 = up h 72 (h 52 7) z 72 := by rw [← hm, up_ne (by decide)]; exact up_cg (by rw [up_ne (by decide), up_ne (by decide), up_ne (by decide), cC 72 (by decide) (by decide) (by decide) (by decide)])
        have f52 : hM 52 7 = h 52 7 + 1 := by rw [cM 52 (by decide) (by decide) (by decide) (by decide), ← hh, up_eq, if_pos rfl]
        have f59 : hM 59 22 = h 52 7 + 1 := by rw [← hm, up_eq, if_pos rfl]
        rw [f52, f59, f53, f54, f55, f70, f71, f72]
        refine ⟨rfl, by omega, by omega, fun j j0 j1 => ?_⟩
        rw [up_eq, up_eq, up_eq, up_eq, up_eq, up_eq]
        by_cases hj : j = h 52 7
        · rw [if_pos hj, if_pos hj, if_pos hj, if_pos hj, if_pos hj, if_pos hj]
          exact ⟨⟨rfl, rfl, rfl⟩, ⟨by omega, by omega⟩, ⟨by omega, by omega⟩, by omega, by omega⟩
        · rw [if_neg hj, if_neg hj, if_neg hj, if_neg hj, if_neg hj, if_neg hj]
          exact s4 j j0 (by omega)
      · rw [cM 52 (by decide) (by decide) (by decide) (by decide), cM 56 (by decide) (by decide) (by decide) (by decide), cM 57 (by decide) (by decide) (by decide) (by decide), cM 73 (by decide) (by decide) (by decide) (by decide), cM 74 (by decide) (by decide) (by decide) (by decide), c59 25 (by decide) (by decide), cC 56 (by decide) (by decide) (by decide) (by decide), cC 57 (by decide) (by decide) (by decide) (by decide), cC 73 (by decide) (by decide) (by decide) (by decide), cC 74 (by decide) (by decide) (by decide) (by decide), ← hh, up_eq, if_neg (by decide), up_ne (by decide), up_ne (by decide), up_ne (by decide)]
        exact s5
  · dsimp only
    rw [if_pos rfl]
    unfold wp_X9_shows
    rintro _ rfl
    refine sp_personM hx hn (by rw [up_ne (by decide)]; exact e0) (fun r1 hr1 => ⟨fun h0 => absurd h0 (by omega), fun h0 => sp_in2 hy inR0 (inR_of (by omega) (by omega)) (fun q => absurd ⟨a1, a2⟩ q) (fun _ _ => sp_in2 hz inR0 (inR_of (by omega) (by omega)) (fun q => absurd ⟨b1, b2⟩ q) (fun _ _ => ?_))⟩)
    rw [thr59 (by decide), s1]
    exact ⟨inR_of (by omega) (by omega), fun _ => fin_ok rfl (inR_of (by omega) (by omega)) (hK _ i.thr), fun z => by omega⟩
theorem S_clean {c : Int} {h : aH} {K : aH → Prop} (i : Inv c h) (hK : ∀ h', Inv (c + 1) h' → K h') : wp_X8_clean h (fun r h1 => wp_X9_clean h1 (fun r2 h2 => inR r ∧ inR r2 ∧ ((r = r2 → K h2) ∧ (¬ r = r2 → False)))) := by
  obtain ⟨⟨s1, s2, s3, s4⟩, ⟨s5, s6, s7, s8⟩⟩ := i.2.2.2.2.2.1
  unfold wp_X8_clean wp_X1_dropRecords wp_X9_clean
  rintro _ rfl
  rintro _ rfl
  rintro _ rfl
  rintro _ rfl
  rintro _ rfl
  rintro _ rfl
  rintro _ rfl
  refine fin_ok ?_ (inR_of (by omega) (by omega)) (hK _ (i.rec ?_ ?_ ?_ ?_ ?_ ?_))
  · rw [thr59 (by decide), thr59 (by decide), up_ne (by decide), up_ne (by decide)]; omega
  · intro k k1 k2 k3
    rw [up_ne k2, up_ne k2, up_ne k2, up_ne (by omega), up_ne (by omega)]
  · rw [up_ne (by decide), up_ne (by decide), up_ne (by decide), up_eq, if_neg (by decide), up_eq, if_neg (by decide)]
  · rw [up_eq, if_neg (by decide), up_eq, if_neg (by decide), thr59 (by decide), up_ne (by decide), up_ne (by decide)]
  · rw [up_eq, if_neg (by decide), up_eq, if_neg (by decide), thr59 (by decide), up_ne (by decide), up_ne (by decide)]
  · rw [up_eq, if_neg (by decide), up_eq, if_neg (by decide), thr59 (by decide), up_ne (by decide), up_ne (by decide)]
  · refine ⟨?_, ?_⟩
    · rw [up_eq (k := 59), if_neg (by decide), up_eq (k := 59), if_pos rfl, up_ne (k' := 52) (by decide), up_ne (k' := 52) (by decide), up_ne (k' := 52) (by decide), up_eq, if_neg (by decide), up_eq, if_pos rfl]
      exact ⟨rfl, by omega, by omega, fun j j0 j1 => by omega⟩
    · rw [up_eq (k := 59), if_pos rfl, up_ne (k' := 52) (by decide), up_ne (k' := 52) (by decide), up_ne (k' := 52) (by decide), up_eq, if_pos rfl]
      exact ⟨rfl, by omega, by omega, fun j j0 j1 => by omega⟩
