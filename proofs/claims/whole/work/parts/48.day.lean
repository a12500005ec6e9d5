-- day
theorem spC_day {n : Int} {h : aH} {Q : Int → aH → Prop} (hn : 0 ≤ n ∧ n ≤ 4) (e : h 3 4 = n) (hd : 0 ≤ h 13 1 ∧ h 13 1 ≤ 999) (b1 : 0 ≤ h 15 1 ∧ h 15 1 < 10) (b2 : 0 ≤ h 15 2 ∧ h 15 2 ≤ 10) (hf : ∀ i, 0 ≤ i → i < 16 → 0 ≤ h 14 i ∧ h 14 i ≤ 9) (hg : ∀ i, 0 ≤ i → i < 16 → 0 ≤ h 6 i ∧ h 6 i ≤ 3 ∧ (4 * n ≤ i → h 6 i = 0)) (full : h 13 1 = 999 → Q (-2) h) (good : h 13 1 < 999 → ∀ hp, PushC h hp → ∀ hC, (∀ k, k ≠ 13 → k ≠ 14 → hC k = hp k) → hC 13 1 = h 13 1 + 1 → hC 13 2 = h 13 2 → (∀ i, 0 ≤ i → i < 16 → hC 14 i = min 9 (h 14 i + h 6 i)) → Q (h 13 1 + 1) hC) : wp_X8_day h Q := by
  unfold wp_X8_day
  refine ⟨inR_of (by omega) (by omega), fun q => sp_push b1 b2 (fun hp pc => ?_), fun q => full (by omega)⟩
  have o : ∀ {k : Nat}, (k ≤ 14 ∨ k = 16 ∨ 37 ≤ k) → hp k = h k := fun hk => pc_out pc b1 hk
  refine lp.rule (μ := fun y => (17 - y.1).toNat) (I := fun y => (0 ≤ y.1 ∧ y.1 ≤ 4 * n) ∧ (∀ k, k ≠ 14 → y.2 k = hp k) ∧ ∀ i, 0 ≤ i → i < 16 → y.2 14 i = if i < y.1 then min 9 (h 14 i + h 6 i) else h 14 i) ?_ (0, hp) ⟨⟨by omega, by dsimp only; omega⟩, fun _ _ => rfl, fun i i0 i1 => by dsimp only; rw [if_neg (by omega), o (by omega)]⟩
  rintro X ⟨m, g⟩ ⟨⟨m0, m1⟩, g1, g2⟩ hX
  dsimp only at m0 m1 g1 g2 ⊢
  unfold wp_X8_day_B29
  rw [g1 3 (by decide), o (k := 3) (by omega), e, g1 6 (by decide), o (k := 6) (by omega), g1 13 (by decide), o (k := 13) (by omega)]
  refine ⟨inR_of (by omega) (by omega), inR_of (by omega) (by omega), fun q2 => ?_, fun q2 => ⟨⟨by omega, by omega⟩, ?_⟩⟩
  · rintro _ rfl
    rw [up_eq, if_pos rfl]
    refine good q hp pc _ (fun k k1 k2 => by rw [up_ne k1, g1 k k2]) (by rw [up_eq, if_pos rfl]) (by rw [up_eq, if_neg (by decide), g1 13 (by decide), o (by omega)]) (fun i i0 i1 => ?_)
    rw [up_ne (by decide), g2 i i0 i1]
    by_cases hi : i < m
    · rw [if_pos hi]
    · have := hg i i0 i1
      have := hf i i0 i1
      rw [if_neg hi]
      omega
  · unfold wp_X4_add
    have a1 := hg m (by omega) (by omega)
    have a2 := hf m (by omega) (by omega)
    have a3 : g 14 m = h 14 m := by rw [g2 m (by omega) (by omega), if_neg (by omega)]
    rw [a3]
    refine ⟨⟨by omega, by omega⟩, inR_of (by omega) (by omega), ?_⟩
    rintro _ rfl
    refine hX _ ⟨⟨by dsimp only; omega, by dsimp only; omega⟩, fun k hk => ?_, fun i i0 i1 => ?_⟩ (by dsimp only; omega)
    · dsimp only; rw [up_ne hk, g1 k hk]
    · dsimp only
      rw [up_eq]
      by_cases hi : i = m
      · rw [if_pos hi, if_pos (by omega), hi]
      · rw [if_neg hi, g2 i i0 i1]
        by_cases hi2 : i < m
        · rw [if_pos hi2, if_pos (by omega)]
        · rw [if_neg hi2, if_neg (by omega)]
theorem spM_day {h : aH} {Q : Int → aH → Prop} (hd : 0 ≤ h 66 0 ∧ h 66 0 ≤ 999) (hs : 0 ≤ h 59 18 ∧ h 59 18 ≤ 10) (hf : ∀ i, 0 ≤ i → i < 16 → 0 ≤ h 66 (1 + i) ∧ h 66 (1 + i) ≤ 9) (hg : ∀ i, 0 ≤ i → i < 16 → 0 ≤ h 64 i ∧ h 64 i ≤ 3) (full : h 66 0 = 999 → Q (-2) (up h 59 0 0)) (good : h 66 0 < 999 → ∀ m8, PushM (up h 59 0 0) m8 → ∀ h', (∀ k, k ≠ 66 → h' k = m8 k) → h' 66 0 = h 66 0 + 1 → (∀ i, 0 ≤ i → i < 16 → h' 66 (1 + i) = min 9 (h 66 (1 + i) + h 64 i)) → (∀ i, 17 ≤ i → h' 66 i = h 66 i) → Q (h 66 0 + 1) h') : wp_X9_day h Q := by
  unfold wp_X9_day
  rintro _ rfl
  have e66 : up h 59 0 0 66 = h 66 := up_ne (by decide)
  rw [e66]
  refine ⟨inR_of (by omega) (by omega), full, fun q => sp_notes (by rw [thr59 (by decide)]; exact hs) (fun m8 pm => ?_)⟩
  have f66 : m8 66 = h 66 := by rw [pm.1 66 (by decide) (by decide), e66]
  have f64 : m8 64 = h 64 := by rw [pm.1 64 (by decide) (by decide), up_ne (by decide)]
  rw [f66]
  rintro _ rfl
  refine lp.rule (μ := fun y => (17 - y.1).toNat) (I := fun y => (0 ≤ y.1 ∧ y.1 ≤ 16) ∧ (∀ k, k ≠ 66 → y.2 k = m8 k) ∧ y.2 66 0 = h 66 0 + 1 ∧ (∀ i, 0 ≤ i → i < 16 → y.2 66 (1 + i) = if i < y.1 then min 9 (h 66 (1 + i) + h 64 i) else h 66 (1 + i)) ∧ ∀ i, 17 ≤ i → y.2 66 i = h 66 i) ?_ (0, up m8 66 0 (h 66 0 + 1)) ⟨⟨by omega, by dsimp only; omega⟩, fun k hk => by dsimp only; rw [up_ne hk], by dsimp only; rw [up_eq, if_pos rfl], fun i i0 i1 => by dsimp only; rw [if_neg (by omega), up_eq, if_neg (by omega), f66], fun i i0 => by dsimp only; rw [up_eq, if_neg (by omega), f66]⟩
  rintro X ⟨m, g⟩ ⟨⟨m0, m1⟩, g1, g2, g3, g4⟩ hX
  dsimp only at m0 m1 g1 g2 g3 g4 ⊢
  unfold wp_X9_day_B36
  rw [g1 64 (by decide), f64, g2]
  refine ⟨inR_of (by omega) (by omega), fun q2 => ?_, fun q2 => ⟨⟨by omega, by omega⟩, ⟨by omega, by omega⟩, ?_⟩⟩
  · refine good (by omega) m8 pm g g1 g2 (fun i i0 i1 => ?_) g4
    rw [g3 i i0 i1, if_pos (by omega)]
  · unfold wp_X9_gets
    have a1 := hg m (by omega) (by omega)
    have a2 := hf m (by omega) (by omega)
    have em : 1 + 4 * (m / 4) + m % 4 = 1 + m := by omega
    have a3 : g 66 (1 + m) = h 66 (1 + m) := by rw [g3 m (by omega) (by omega), if_neg (by omega)]
    rw [em, a3]
    refine ⟨⟨by omega, by omega⟩, ?_⟩
    rintro _ rfl
    refine ⟨⟨inR_of (by omega) (by omega), trivial⟩, ?_⟩
    rintro _ rfl
    have emm : (if h 66 (1 + m) + h 64 m ≤ 9 then h 66 (1 + m) + h 64 m else 9) = min 9 (h 66 (1 + m) + h 64 m) := by split <;> omega
    rw [emm]
    refine hX _ ⟨⟨by dsimp only; omega, by dsimp only; omega⟩, fun k hk => ?_, ?_, fun i i0 i1 => ?_, fun i i0 => ?_⟩ (by dsimp only; omega)
    · dsimp only; rw [up_ne hk, g1 k hk]
    · dsimp only; rw [up_eq, if_neg (by omega), g2]
    · dsimp only
      rw [up_eq]
      by_cases hi : i = m
      · rw [if_pos (by omega), if_pos (by omega), hi]
      · rw [if_neg (by omega), g3 i i0 i1]
        by_cases hi2 : i < m
        · rw [if_pos hi2, if_pos (by omega)]
        · rw [if_neg hi2, if_neg (by omega)]
    · dsimp only; rw [up_eq, if_neg (by omega), g4 i i0]
theorem S_day {c : Int} {h : aH} {K : aH → Prop} (i : Inv c h) (hK : ∀ h', Inv (c + 1) h' → K h') : wp_X8_day h (fun r h1 => wp_X9_day h1 (fun r2 h2 => inR r ∧ inR r2 ∧ ((r = r2 → K h2) ∧ (¬ r = r2 → False)))) := by
  obtain ⟨hn, hp, e1, e2, hw, hg, hb⟩ := i.2.1
  have im := i.2.2.1
  have iu := i.2.2.2.1
  have hf' : ∀ j, 0 ≤ j → j < 16 → 0 ≤ h 66 (1 + j) ∧ h 66 (1 + j) ≤ 9 := fun j h0 h1 => by have := im.2.2.1 j h0 h1; omega
  have hg' : ∀ j, 0 ≤ j → j < 16 → 0 ≤ h 64 j ∧ h 64 j ≤ 3 := fun j h0 h1 => by have := hg j h0 h1; omega
  have hs' : 0 ≤ h 59 18 ∧ h 59 18 ≤ 10 := by have := iu.2.1; have := iu.2.2.1; omega
  have d1 := im.1
  have d2 := im.2.1
  refine spC_day hn rfl d1 iu.1 iu.2.1 (fun j h0 h1 => (im.2.2.1 j h0 h1).2) (fun j h0 h1 => (hg j h0 h1).2) (fun q => ?_) (fun q hp pc hC c1 c2 c3 c4 => ?_)
  · exact spM_day (by omega) hs' hf' hg' (fun _ => fin_ok rfl (inR_of (by omega) (by omega)) (hK _ i.thr)) (fun q2 => by omega)
  · have o : ∀ {k : Nat}, (k ≤ 14 ∨ k = 16 ∨ 37 ≤ k) → hp k = h k := fun hk => pc_out pc iu.1 hk
    have o2 : ∀ {k : Nat}, (k ≤ 12 ∨ k = 16 ∨ 37 ≤ k) → hC k = h k := fun hk => by rw [c1 _ (by omega) (by omega), o (by omega)]
    refine spM_day (by rw [o2 (by omega)]; omega) (by rw [o2 (by omega)]; exact hs') (by rw [o2 (by omega)]; exact hf') (by rw [o2 (by omega)]; exact hg') (fun q2 => by rw [o2 (by omega)] at q2; omega) (fun _ m8 pm h' m1 m2 m3 m4 => ?_)
    rw [o2 (by omega), d2]
    refine fin_ok rfl (inR_of (by omega) (by omega)) (hK _ (fin_act i pc c1 pm m1 ?_))
    rw [o2 (by omega)] at m2 m3 m4
    rw [o2 (k := 64) (by omega)] at m3
    rw [c2, c3]
    refine ⟨by omega, by omega, fun j j0 j1 => ?_, im.2.2.2.1, fun j hj => ?_⟩
    · have a1 := hg j j0 j1
      have a2 := im.2.2.1 j j0 j1
      rw [m3 j j0 j1, c4 j j0 j1, a1.1, a2.1]
      exact ⟨rfl, by omega, by omega⟩
    · rw [m4 _ (by omega)]
      exact im.2.2.2.2 j hj
-- undo
theorem S_undo {c : Int} {h : aH} {K : aH → Prop} (i : Inv c h) (hK : ∀ h', Inv (c + 1) h' → K h') : wp_X8_undo h (fun r h1 => wp_X9_undo h1 (fun r2 h2 => inR r ∧ inR r2 ∧ ((r = r2 → K h2) ∧ (¬ r = r2 → False)))) := by
  have iu := i.2.2.2.1
  obtain ⟨u1, u2, u3, u4⟩ := iu
  unfold wp_X8_undo wp_X9_undo
  refine ⟨inR_of (by omega) (by omega), fun q => ?_, fun q => ?_⟩
  · rintro _ rfl
    rw [thr59 (by decide)]
    exact ⟨inR_of (by omega) (by omega), fun _ => fin_ok rfl (inR_of (by omega) (by omega)) (hK _ i.thr), fun q2 => by omega⟩
  · unfold wp_X2_popInto
    refine ⟨inR_of (by omega) (by omega), fun q2 => by omega, fun _ => ⟨⟨by omega, by omega⟩, ?_⟩⟩
    rintro _ rfl
    rintro _ rfl
    have ep : up (up h 15 1 ((h 15 1 + 10 - 1) % 10)) 15 2 (up h 15 1 ((h 15 1 + 10 - 1) % 10) 15 2 - 1) 15 1 = (h 15 1 + 10 - 1) % 10 := by rw [up_eq, if_neg (by decide), up_eq, if_pos rfl]
    have eq2 : up (up h 15 1 ((h 15 1 + 10 - 1) % 10)) 15 2 (up h 15 1 ((h 15 1 + 10 - 1) % 10) 15 2 - 1) 15 2 = h 15 2 - 1 := by rw [up_eq, if_pos rfl, up_eq, if_neg (by decide)]
    have eo : ∀ k, k ≠ 15 → up (up h 15 1 ((h 15 1 + 10 - 1) % 10)) 15 2 (up h 15 1 ((h 15 1 + 10 - 1) % 10) 15 2 - 1) k = h k := fun k hk => by rw [up_ne hk, up_ne hk]
    generalize up (up h 15 1 ((h 15 1 + 10 - 1) % 10)) 15 2 (up h 15 1 ((h 15 1 + 10 - 1) % 10) 15 2 - 1) = g0 at ep eq2 eo ⊢
    rw [ep]
    refine ⟨⟨by omega, by omega⟩, sp_copyFrom (by omega) (by omega) (fun g cp => ?_)⟩
    obtain ⟨p1, p2, p3, p4⟩ := cp
    have e15 : g 15 = g0 15 := p1 15 (by decide) (by decide)
    have eg : ∀ k, k ≠ 13 → k ≠ 14 → k ≠ 15 → g k = h k := fun k k1 k2 k3 => by rw [p1 k k1 k2, eo k k3]
    rintro _ rfl
    rw [thr59 (by decide), eg 59 (by decide) (by decide) (by decide), u3]
    refine ⟨inR_of (by omega) (by omega), fun q3 => by omega, fun _ => ?_⟩
    rintro _ rfl
    have er : rpos (h 15 1) (h 15 2) (h 15 2 - 1) = ((h 15 1 + 10 - 1) % 10).toNat := by unfold rpos; congr 1; omega
    have m := u4 (h 15 2 - 1) (by omega) (by omega)
    rw [er] at m
    refine lp.rule (μ := fun y => (24 - y.1).toNat) (I := fun y => (0 ≤ y.1 ∧ y.1 ≤ 23) ∧ (∀ k, k ≠ 66 → y.2 k = up (up g 59 0 0) 59 18 (h 15 2 - 1) k) ∧ ∀ j, 0 ≤ j → j < y.1 → y.2 66 j = h 69 (23 * (h 15 2 - 1) + j)) ?_ (0, up (up g 59 0 0) 59 18 (h 15 2 - 1)) ⟨⟨by omega, by dsimp only; omega⟩, fun _ _ => rfl, fun j j0 j1 => absurd (show j < 0 from j1) (by omega)⟩
    rintro X ⟨t, f⟩ ⟨⟨t0, t1⟩, f1, f2⟩ hX
    dsimp only at t0 t1 f1 f2 ⊢
    unfold wp_X9_undo_B27
    have s18 : f 59 18 = h 15 2 - 1 := by rw [f1 59 (by decide), up_eq, if_pos rfl]
    have s69 : f 69 = h 69 := by rw [f1 69 (by decide), up_ne (by decide), up_ne (by decide), eg 69 (by decide) (by decide) (by decide)]
    rw [s18, s69]
    refine ⟨inR_of (by omega) (by omega), fun q3 => ?_, fun q3 => ⟨⟨by omega, by omega⟩, ⟨by omega, by omega⟩, ?_⟩⟩
    · have lo : ∀ k, k ≠ 59 → k ≠ 66 → f k = g k := fun k k1 k2 => by rw [f1 k k2, up_ne k1, up_ne k1]
      have x59 : ∀ j : Int, ¬ j = 0 → ¬ j = 18 → f 59 j = h 59 j := fun j j0 j1 => by rw [f1 59 (by decide), up_eq, if_neg j1, thr59 j0, eg 59 (by decide) (by decide) (by decide)]
      rw [e15, eq2]
      refine fin_ok rfl (inR_of (by omega) (by omega)) (hK _ (i.now (fun k k1 k2 k3 k4 => ?_) (x59 1 (by decide) (by decide)) (x59 3 (by decide) (by decide)) (x59 22 (by decide) (by decide)) (x59 25 (by decide) (by decide)) ?_ ?_))
      · rw [lo k k2 k3, eg k (by omega) (by omega) (by omega)]
      · rw [lo 13 (by decide) (by decide), lo 14 (by decide) (by decide), p2, p3, eo _ (by omega)]
        refine m.cong (fun j j0 j1 => ?_) (fun j j0 j1 => f2 j j0 (by omega))
        rw [p4 j j0 j1, eo _ (by omega)]
        congr 1
        omega
      · unfold IU
        rw [s18, s69, lo 15 (by decide) (by decide), lo 3 (by decide) (by decide), e15, ep, eq2, eg 3 (by decide) (by decide) (by decide)]
        refine ⟨by omega, by omega, rfl, fun j j0 j1 => ?_⟩
        have e : rpos ((h 15 1 + 10 - 1) % 10) (h 15 2 - 1) j = rpos (h 15 1) (h 15 2) j := by unfold rpos; congr 1; omega
        have el : rpos (h 15 1) (h 15 2) j < 10 := by unfold rpos; omega
        have d1 := u4 j j0 (by omega)
        rw [e]
        generalize rpos (h 15 1) (h 15 2) j = r at el d1
        rw [lo (17 + 2 * r) (by omega) (by omega), lo (18 + 2 * r) (by omega) (by omega), eg (17 + 2 * r) (by omega) (by omega) (by omega), eg (18 + 2 * r) (by omega) (by omega) (by omega)]
        exact d1
    · rintro _ rfl
      refine hX _ ⟨⟨by dsimp only; omega, by dsimp only; omega⟩, fun k hk => ?_, fun j j0 j1 => ?_⟩ (by dsimp only; omega)
      · dsimp only; rw [up_ne hk, f1 k hk]
      · dsimp only at j1 ⊢
        rw [up_eq]
        by_cases hj : j = t
        · rw [if_pos hj, hj]
        · rw [if_neg hj]; exact f2 j j0 (by omega)
-- images
theorem Inv.img {c : Int} {h h' : aH} (i : Inv c h) (hk : ∀ k, ¬ (38 ≤ k ∧ k ≤ 42) → k ≠ 59 → k ≠ 67 → k ≠ 68 → h' k = h k) (h5 : ∀ j : Int, ¬ j = 0 → h' 59 j = h 59 j) (ii : II h') : Inv (c + 1) h' := by
  have s : ∀ k, ¬ (38 ≤ k ∧ k ≤ 42) ∧ k ≠ 59 ∧ k ≠ 67 ∧ k ≠ 68 → h' k = h k := fun k q => hk k q.1 q.2.1 q.2.2.1 q.2.2.2
  obtain ⟨i1, i2, i3, i4, i5, i6, i7, i8, i9, i10, i11⟩ := i
  refine ⟨i1.fr (by rw [s 1 (by omega)]) (h5 3 (by decide)) (s 2 (by omega)) (s 60 (by omega)), i2.fr (by rw [s 3 (by omega)]) (by rw [s 3 (by omega)]) (s 61 (by omega)) (s 4 (by omega)) (s 62 (by omega)) (s 6 (by omega)) (s 64 (by omega)) (s 7 (by omega)) (s 65 (by omega)), ?_, i4.fr (by rw [s 3 (by omega)]) (by rw [s 15 (by omega)]) (by rw [s 15 (by omega)]) (h5 18 (by decide)) (s 69 (by omega)) (fun k q1 q2 => s k (by omega)), ii, i6.fr (by rw [s 52 (by omega)]) (by rw [s 52 (by omega)]) (h5 22 (by decide)) (h5 25 (by decide)) (fun k q1 q2 => s k (by omega)) (fun k q1 q2 => s k (by omega)), ?_, ?_, ?_, ?_, ?_⟩
  · rw [s 3 (by omega), s 13 (by omega), s 14 (by omega), s 66 (by omega)]; exact i3
  · rw [s 52 (by omega), s 4 (by omega), s 58 (by omega)]; exact i7
  · rw [s 43 (by omega), s 44 (by omega)]; exact i8
  · rw [s 3 (by omega), s 76 (by omega), s 77 (by omega)]; exact i9
  · rw [s 3 (by omega), s 7 (by omega), s 48 (by omega)]; exact i10
  · rw [s 0 (by omega), h5 1 (by decide)]; exact i11.up (by omega)
theorem S_keep {c x : Int} {h : aH} {K : aH → Prop} (i : Inv c h) (hx : inR x) (hK : ∀ h', Inv (c + 1) h' → K h') : wp_X8_keep x h (fun r h1 => wp_X9_keep x h1 (fun r2 h2 => inR r ∧ inR r2 ∧ ((r = r2 → K h2) ∧ (¬ r = r2 → False)))) := by
  have im := i.2.2.1
  have ii := i.2.2.2.2.1
  have d1 := im.1
  have d2 := im.2.1
  unfold wp_X8_keep wp_X9_keep
  refine sp_within2 hx inR0 (inR_of (by omega) (by omega)) (fun nq => ?_) (fun q1 q2 => ⟨⟨by omega, by omega⟩, sp_copyFrom (by omega) (by omega) (fun g cp => ?_)⟩)
  · rintro _ rfl
    exact sp_in2 hx inR0 (inR_of (by omega) (by omega)) (fun _ => fin_ok rfl (inR_of (by omega) (by omega)) (hK _ i.thr)) (fun a b => absurd ⟨a, b⟩ nq)
  · obtain ⟨p1, p2, p3, p4⟩ := cp
    rintro _ rfl
    rintro _ rfl
    refine sp_in2 hx inR0 (inR_of (by omega) (by omega)) (fun nq => absurd ⟨q1, q2⟩ nq) (fun _ _ => ?_)
    have eg : ∀ k, ¬ (38 ≤ k ∧ k ≤ 42) → k ≠ 59 → up (up g 42 x 1) 59 0 0 k = h k := fun k k1 k2 => by rw [up_ne k2, up_ne (by omega), p1 k (by omega) (by omega)]
    refine lp.rule (μ := fun y => (24 - y.1).toNat) (I := fun y => (0 ≤ y.1 ∧ y.1 ≤ 23) ∧ (∀ k, k ≠ 67 → y.2 k = up (up g 42 x 1) 59 0 0 k) ∧ (∀ j, 0 ≤ j → j < y.1 → y.2 67 (23 * x + j) = h 66 j) ∧ ∀ j, ¬ (23 * x ≤ j ∧ j < 23 * x + 23) → y.2 67 j = h 67 j) ?_ (0, up (up g 42 x 1) 59 0 0) ⟨⟨by omega, by dsimp only; omega⟩, fun _ _ => rfl, fun j j0 j1 => absurd (show j < 0 from j1) (by omega), fun j _ => by dsimp only; rw [eg 67 (by omega) (by omega)]⟩
    rintro X ⟨t, f⟩ ⟨⟨t0, t1⟩, f1, f2, f3⟩ hX
    dsimp only at t0 t1 f1 f2 f3 ⊢
    unfold wp_X9_keep_B18
    have s66 : f 66 = h 66 := by rw [f1 66 (by decide), eg 66 (by omega) (by omega)]
    rw [s66]
    refine ⟨inR_of (by omega) (by omega), fun q3 => ⟨⟨by omega, by omega⟩, ?_⟩, fun q3 => ⟨⟨by omega, by omega⟩, ⟨by omega, by omega⟩, ?_⟩⟩
    · rintro _ rfl
      have a13 : up g 42 x 1 13 = h 13 := by rw [up_ne (by decide), p1 13 (by omega) (by omega)]
      rw [a13, up_ne (k' := 66) (by decide), s66, d2]
      refine fin_ok rfl (inR_of (by omega) (by omega)) (hK _ (i.img (fun k k1 k2 k3 k4 => by rw [up_ne k4, f1 k k3, eg k k1 k2]) (fun j hj => by rw [up_ne (by decide), f1 59 (by decide), thr59 hj, up_ne (by decide), p1 59 (by omega) (by omega)]) ?_))
      have lo : ∀ k, k ≠ 67 → k ≠ 68 → k ≠ 59 → k ≠ 42 → up f 68 x 1 k = g k := fun k k1 k2 k3 k4 => by rw [up_ne k2, f1 k k1, up_ne k3, up_ne k4]
      have r42 : ∀ j, up f 68 x 1 42 j = if j = x then 1 else h 42 j := fun j => by rw [up_ne (by decide), f1 42 (by decide), up_ne (by decide), up_eq, p1 42 (by omega) (by omega)]
      have r68 : ∀ j, up f 68 x 1 68 j = if j = x then 1 else h 68 j := fun j => by rw [up_eq, f1 68 (by decide), eg 68 (by omega) (by omega)]
      have r67 : up f 68 x 1 67 = f 67 := up_ne (by decide)
      have e3 : up f 68 x 1 3 = h 3 := by rw [lo 3 (by decide) (by decide) (by decide) (by decide), p1 3 (by omega) (by omega)]
      unfold II
      rw [r42, r42, r68, r68, r67, e3, lo 38 (by decide) (by decide) (by decide) (by decide), lo 39 (by decide) (by decide) (by decide) (by decide), lo 40 (by decide) (by decide) (by decide) (by decide), lo 41 (by decide) (by decide) (by decide) (by decide)]
      rcases (show x = 0 ∨ x = 1 by omega) with rfl | rfl
      · have c38 : g 38 1 = h 13 1 := p2
        have c38b : g 38 2 = h 13 2 := p3
        have c40 : g 40 = h 40 := p1 40 (by decide) (by decide)
        have c41 : g 41 = h 41 := p1 41 (by decide) (by decide)
        rw [if_pos rfl, if_pos rfl, if_neg (by decide), if_neg (by decide), c40, c41, c38, c38b]
        refine ⟨⟨rfl, Or.inr rfl, fun _ => im.cong p4 (fun j j0 j1 => ?_)⟩, ii.2.1, ii.2.2.1, fun q4 => (ii.2.2.2 q4).cong (fun _ _ _ => rfl) (fun j j0 j1 => f3 _ (by omega))⟩
        have := f2 j j0 (by omega)
        rwa [show 23 * 0 + j = j by omega] at this
      · have c40 : g 40 1 = h 13 1 := p2
        have c40b : g 40 2 = h 13 2 := p3
        have c38 : g 38 = h 38 := p1 38 (by decide) (by decide)
        have c39 : g 39 = h 39 := p1 39 (by decide) (by decide)
        rw [if_neg (by decide), if_neg (by decide), if_pos rfl, if_pos rfl, c38, c39, c40, c40b]
        refine ⟨⟨ii.1.1, ii.1.2.1, fun q4 => (ii.1.2.2 q4).cong (fun _ _ _ => rfl) (fun j j0 j1 => f3 _ (by omega))⟩, rfl, Or.inr rfl, fun _ => im.cong p4 (fun j j0 j1 => ?_)⟩
        have := f2 j j0 (by omega)
        rwa [show 23 * 1 + j = 23 + j by omega] at this
    · rintro _ rfl
      refine hX _ ⟨⟨by dsimp only; omega, by dsimp only; omega⟩, fun k hk => ?_, fun j j0 j1 => ?_, fun j hj => ?_⟩ (by dsimp only; omega)
      · dsimp only; rw [up_ne hk, f1 k hk]
      · dsimp only at j1 ⊢
        rw [up_eq]
        by_cases hj : j = t
        · rw [if_pos (by omega), hj]
        · rw [if_neg (by omega)]; exact f2 j j0 (by omega)
      · dsimp only
        rw [up_eq, if_neg (by omega)]; exact f3 j hj
theorem S_back {c x : Int} {h : aH} {K : aH → Prop} (i : Inv c h) (hx : inR x) (hK : ∀ h', Inv (c + 1) h' → K h') : wp_X8_back x h (fun r h1 => wp_X9_back x h1 (fun r2 h2 => inR r ∧ inR r2 ∧ ((r = r2 → K h2) ∧ (¬ r = r2 → False)))) := by
  have ii := i.2.2.2.2.1
  unfold wp_X8_back wp_X9_back
  refine sp_within2 hx inR0 (inR_of (by omega) (by omega)) (fun nq => ?_) (fun q1 q2 => ⟨⟨by omega, by omega⟩, ?_⟩)
  · rintro _ rfl
    exact sp_in2 hx inR0 (inR_of (by omega) (by omega)) (fun _ => fin_ok rfl (inR_of (by omega) (by omega)) (hK _ i.thr)) (fun a b => absurd ⟨a, b⟩ nq)
  · have ix : II1 (h 3 4) (h 42 x) (h 68 x) (h (38 + 2 * x.toNat) 1) (h (38 + 2 * x.toNat) 2) (h (38 + 2 * x.toNat + 1)) (fun j => h 67 (23 * x + j)) := by
      rcases (show x = 0 ∨ x = 1 by omega) with rfl | rfl
      · refine ⟨ii.1.1, ii.1.2.1, fun q => (ii.1.2.2 q).cong (fun _ _ _ => rfl) (fun j j0 j1 => ?_)⟩
        congr 1
        omega
      · exact ii.2
    refine ⟨inR_of (by have := ix.2.1; omega) (by have := ix.2.1; omega), fun q => ?_, fun q => sp_copyFrom (by omega) (by omega) (fun g cp => ?_)⟩
    · rintro _ rfl
      refine sp_in2 hx inR0 (inR_of (by omega) (by omega)) (fun nq => absurd ⟨q1, q2⟩ nq) (fun _ _ => ⟨⟨by omega, by omega⟩, ?_⟩)
      rw [up_ne (k' := 68) (by decide), ix.1, q]
      exact ⟨inR0, fun _ => fin_ok rfl (inR_of (by omega) (by omega)) (hK _ i.thr), fun q3 => absurd rfl q3⟩
    · obtain ⟨p1, p2, p3, p4⟩ := cp
      have q' : h 42 x = 1 := by have := ix.2.1; omega
      have im := ix.2.2 q'
      have d1 := im.1
      have d2 := im.2.1
      rintro _ rfl
      rintro _ rfl
      have eg : ∀ k, k ≠ 13 → k ≠ 14 → k ≠ 15 → k ≠ 59 → up (up g 15 2 0) 59 0 0 k = h k := fun k k1 k2 k3 k4 => by rw [up_ne k4, up_ne k3, p1 k k1 k2]
      refine sp_in2 hx inR0 (inR_of (by omega) (by omega)) (fun nq => absurd ⟨q1, q2⟩ nq) (fun _ _ => ⟨⟨by omega, by omega⟩, ?_⟩)
      rw [eg 68 (by decide) (by decide) (by decide) (by decide), ix.1, q']
      refine ⟨inR_of (by omega) (by omega), fun q3 => absurd q3 (by decide), fun _ => ?_⟩
      refine lp.rule (μ := fun y => (24 - y.1).toNat) (I := fun y => (0 ≤ y.1 ∧ y.1 ≤ 23) ∧ (∀ k, k ≠ 66 → y.2 k = up (up g 15 2 0) 59 0 0 k) ∧ (∀ j, 0 ≤ j → j < y.1 → y.2 66 j = h 67 (23 * x + j))) ?_ (0, up (up g 15 2 0) 59 0 0) ⟨⟨by omega, by dsimp only; omega⟩, fun _ _ => rfl, fun j j0 j1 => absurd (show j < 0 from j1) (by omega)⟩
      rintro X ⟨t, f⟩ ⟨⟨t0, t1⟩, f1, f2⟩ hX
      dsimp only at t0 t1 f1 f2 ⊢
      unfold wp_X9_back_B30
      have s67 : f 67 = h 67 := by rw [f1 67 (by decide), eg 67 (by decide) (by decide) (by decide) (by decide)]
      rw [s67]
      refine ⟨inR_of (by omega) (by omega), fun q3 => ?_, fun q3 => ⟨⟨by omega, by omega⟩, ⟨by omega, by omega⟩, ?_⟩⟩
      · rintro _ rfl
        have x59 : ∀ j : Int, ¬ j = 0 → ¬ j = 18 → up f 59 18 0 59 j = h 59 j := fun j j0 j1 => by rw [up_eq, if_neg j1, f1 59 (by decide), thr59 j0, up_ne (by decide), p1 59 (by decide) (by decide)]
        have lo : ∀ k, k ≠ 66 → k ≠ 59 → k ≠ 15 → up f 59 18 0 k = g k := fun k k1 k2 k3 => by rw [up_ne k2, f1 k k1, up_ne k2, up_ne k3]
        have a13 : up g 15 2 0 13 1 = h (38 + 2 * x.toNat) 1 := by rw [up_ne (by decide), p2]
        have a66 : up f 59 18 0 66 0 = h 67 (23 * x + 0) := by rw [up_ne (by decide), f2 0 (by omega) (by omega)]
        have a15 : ∀ j, up f 59 18 0 15 j = if j = 2 then 0 else h 15 j := fun j => by rw [up_ne (by decide), f1 15 (by decide), up_ne (by decide), up_eq, p1 15 (by decide) (by decide)]
        rw [a13, a66]
        refine fin_ok d2.symm (inR_of (by omega) (by omega)) (hK _ (i.now (fun k k1 k2 k3 k4 => ?_) (x59 1 (by decide) (by decide)) (x59 3 (by decide) (by decide)) (x59 22 (by decide) (by decide)) (x59 25 (by decide) (by decide)) ?_ ?_))
        · rw [lo k k3 k2 (by omega), p1 k (by omega) (by omega)]
        · rw [lo 13 (by decide) (by decide) (by decide), lo 14 (by decide) (by decide) (by decide), p2, p3]
          exact im.cong p4 (fun j j0 j1 => by rw [up_ne (by decide)]; exact f2 j j0 (by omega))
        · unfold IU
          have u := i.2.2.2.1.1
          rw [a15, a15, if_neg (by decide), if_pos rfl]
          refine ⟨u, by omega, by rw [up_eq, if_pos rfl], fun j j0 j1 => by omega⟩
      · rintro _ rfl
        refine hX _ ⟨⟨by dsimp only; omega, by dsimp only; omega⟩, fun k hk => ?_, fun j j0 j1 => ?_⟩ (by dsimp only; omega)
        · dsimp only; rw [up_ne hk, f1 k hk]
        · dsimp only at j1 ⊢
          rw [up_eq]
          by_cases hj : j = t
          · rw [if_pos hj, hj]
          · rw [if_neg hj]; exact f2 j j0 (by omega)
