theorem pc_out {h hp : aH} (pc : PushC h hp) (b : 0 ≤ h 15 1 ∧ h 15 1 < 10) {k : Nat} (hk : k ≤ 14 ∨ k = 16 ∨ 37 ≤ k) : hp k = h k := pc.1 k (by omega) (by omega) (by omega)
theorem fin_act {c : Int} {h hp hC m8 h' : aH} (i : Inv c h) (pc : PushC h hp) (eC : ∀ k, k ≠ 13 → k ≠ 14 → hC k = hp k) (pm : PushM (up hC 59 0 0) m8) (eM : ∀ k, k ≠ 66 → h' k = m8 k) (im : MR (h 3 4) (hC 13 1) (hC 13 2) (hC 14) (h' 66)) : Inv (c + 1) h' := by
  have iu := i.2.2.2.1
  have b15 := iu.1
  have o : ∀ {k : Nat}, (k ≤ 14 ∨ k = 16 ∨ 37 ≤ k) → hp k = h k := fun hk => pc_out pc b15 hk
  have x59 : ∀ j : Int, ¬ j = 0 → ¬ j = 18 → h' 59 j = h 59 j := fun j j0 j1 => by rw [eM 59 (by decide), pm.2.1 j j1, thr59 j0, eC 59 (by decide) (by decide), o (by omega)]
  have s18 : up hC 59 0 0 59 18 = h 15 2 := by rw [thr59 (by decide), eC 59 (by decide) (by decide), o (by omega)]; exact iu.2.2.1
  have s66 : up hC 59 0 0 66 = h 66 := by rw [up_ne (by decide), eC 66 (by decide) (by decide), o (by omega)]
  have s69 : up hC 59 0 0 69 = h 69 := by rw [up_ne (by decide), eC 69 (by decide) (by decide), o (by omega)]
  have nr := pm.2.2.2
  rw [s18, s66, s69] at nr
  have low : ∀ k, k ≠ 59 → k ≠ 66 → k ≠ 69 → h' k = hC k := fun k k1 k2 k3 => by rw [eM k k2, pm.1 k k1 k3, up_ne k1]
  refine i.now (fun k k1 k2 k3 k4 => ?_) (x59 1 (by decide) (by decide)) (x59 3 (by decide) (by decide)) (x59 22 (by decide) (by decide)) (x59 25 (by decide) (by decide)) ?_ ?_
  · rw [low k k2 k3 k4, eC k (by omega) (by omega), o (by omega)]
  · rw [low 13 (by decide) (by decide) (by decide), low 14 (by decide) (by decide) (by decide)]; exact im
  · refine IU_push iu i.2.2.1 pc nr ?_ ?_ (fun k k1 k2 => ?_) ?_ (eM 69 (by decide))
    · rw [low 3 (by decide) (by decide) (by decide), eC 3 (by decide) (by decide), o (by omega)]
    · rw [low 15 (by decide) (by decide) (by decide), eC 15 (by decide) (by decide)]
    · rw [low k (by omega) (by omega) (by omega), eC k (by omega) (by omega)]
    · rw [eM 59 (by decide), pm.2.2.1, s18]
-- keeps
theorem spM_keeps {x y n : Int} {h : aH} {Q : Int → aH → Prop} (hx : inR x) (hy : inR y) (hn : 0 ≤ n ∧ n ≤ 4) (e : h 61 0 = n) (hf : ∀ i, 0 ≤ i → i < 16 → 0 ≤ h 66 (1 + i) ∧ h 66 (1 + i) ≤ 9) (hs : 0 ≤ h 59 18 ∧ h 59 18 ≤ 10) (bad : ¬ ((0 ≤ x ∧ x < n) ∧ 0 ≤ y ∧ y < 4) → Q (-1) (up h 59 0 0)) (full : (0 ≤ x ∧ x < n) → (0 ≤ y ∧ y < 4) → h 66 (1 + (4 * x + y)) = 9 → Q (-2) (up h 59 0 0)) (good : (0 ≤ x ∧ x < n) → (0 ≤ y ∧ y < 4) → h 66 (1 + (4 * x + y)) < 9 → ∀ m8, PushM (up h 59 0 0) m8 → Q (h 66 (1 + (4 * x + y)) + 1) (up m8 66 (1 + (4 * x + y)) (h 66 (1 + (4 * x + y)) + 1))) : wp_X9_keeps x y h Q := by
  unfold wp_X9_keeps
  rintro _ rfl
  have e66 : up h 59 0 0 66 = h 66 := up_ne (by decide)
  have ei : 1 + 4 * x + y = 1 + (4 * x + y) := by omega
  rw [e66, ei]
  refine sp_personM hx hn (by rw [up_ne (by decide)]; exact e) (fun r1 hr1 => ⟨fun h0 => bad (by omega), fun h0 => sp_sortM hy (fun r3 hr3 => ⟨fun h3 => bad (by omega), fun h3 => ?_⟩)⟩)
  have b := hf (4 * x + y) (by omega) (by omega)
  refine ⟨⟨by omega, by omega⟩, inR_of (by omega) (by omega), fun q => full (by omega) (by omega) q, fun q => sp_notes (by rw [thr59 (by decide)]; exact hs) (fun m8 pm => ?_)⟩
  have f66 : m8 66 = h 66 := by rw [pm.1 66 (by decide) (by decide), e66]
  unfold wp_X9_gets
  rw [ei, f66]
  refine ⟨⟨by omega, by omega⟩, ?_⟩
  rintro _ rfl
  refine ⟨⟨inR_of (by omega) (by omega), trivial⟩, ?_⟩
  rintro _ rfl
  rw [if_pos (by omega), up_eq, if_pos rfl]
  exact good (by omega) (by omega) (by omega) m8 pm
theorem MR.upd {n d p : Int} {f s : Int → Int} (m : MR n d p f s) {k v : Int} (hk : 0 ≤ k ∧ k < 16) (hv' : 0 ≤ v ∧ v ≤ 9) : MR n d p (fun j => if j = k then v else f j) (fun j => if j = 1 + k then v else s j) := by
  obtain ⟨h1, h2, h3, h4, h5⟩ := m
  refine ⟨h1, ?_, fun i i0 i1 => ?_, h4, fun i hi => ?_⟩
  · dsimp only
    rw [if_neg (by omega)]; exact h2
  · dsimp only
    by_cases hik : i = k
    · rw [if_pos (by omega), if_pos hik]; exact ⟨rfl, hv'⟩
    · rw [if_neg (by omega), if_neg hik]; exact h3 i i0 i1
  · dsimp only
    rw [if_neg (by omega)]; exact h5 i hi
theorem S_keeps {c x y : Int} {h : aH} {K : aH → Prop} (i : Inv c h) (hx : inR x) (hy : inR y) (hK : ∀ h', Inv (c + 1) h' → K h') : wp_X8_keeps x y h (fun r h1 => wp_X9_keeps x y h1 (fun r2 h2 => inR r ∧ inR r2 ∧ ((r = r2 → K h2) ∧ (¬ r = r2 → False)))) := by
  obtain ⟨hn, hp, e1, e2, hw, hg, hb⟩ := i.2.1
  have im := i.2.2.1
  have iu := i.2.2.2.1
  have hf' : ∀ j, 0 ≤ j → j < 16 → 0 ≤ h 66 (1 + j) ∧ h 66 (1 + j) ≤ 9 := fun j h0 h1 => by have := im.2.2.1 j h0 h1; omega
  have hs' : 0 ≤ h 59 18 ∧ h 59 18 ≤ 10 := by have := iu.2.1; have := iu.2.2.1; omega
  unfold wp_X8_keeps
  have B : ¬ ((0 ≤ x ∧ x < h 3 4) ∧ 0 ≤ y ∧ y < 4) → wp_X9_keeps x y h (fun r2 h2 => inR (-1) ∧ inR r2 ∧ ((-1 = r2 → K h2) ∧ (¬ -1 = r2 → False))) := fun nq => spM_keeps hx hy hn e1 hf' hs' (fun _ => fin_ok rfl (inR_of (by omega) (by omega)) (hK _ i.thr)) (fun q1 q2 => absurd ⟨q1, q2⟩ nq) (fun q1 q2 => absurd ⟨q1, q2⟩ nq)
  refine sp_person hx hn (fun r1 hr1 => ⟨fun h0 => B (by omega), fun h0 => sp_sort hy (fun r3 hr3 => ⟨fun h3 => B (by omega), fun h3 => ?_⟩)⟩)
  rintro _ rfl
  have ei : x * 4 + y = 4 * x + y := by omega
  rw [ei]
  have b := im.2.2.1 (4 * x + y) (by omega) (by omega)
  refine ⟨⟨by omega, by omega⟩, inR_of (by omega) (by omega), fun q => sp_push iu.1 iu.2.1 (fun hp' pc => ?_), fun q => ?_⟩
  · have o : ∀ {k : Nat}, (k ≤ 14 ∨ k = 16 ∨ 37 ≤ k) → hp' k = h k := fun hk => pc_out pc iu.1 hk
    unfold wp_X4_add
    rw [o (k := 14) (by omega)]
    refine ⟨⟨by omega, by omega⟩, inR_of (by omega) (by omega), ?_⟩
    rintro _ rfl
    rw [show min 9 (h 14 (4 * x + y) + 1) = h 14 (4 * x + y) + 1 by omega, up_eq, if_pos rfl]
    have g : ∀ k, k ≠ 14 → up hp' 14 (4 * x + y) (h 14 (4 * x + y) + 1) k = hp' k := fun k hk => up_ne hk
    refine spM_keeps hx hy hn (by rw [g 61 (by decide), o (by omega)]; exact e1) (by rw [g 66 (by decide), o (by omega)]; exact hf') (by rw [g 59 (by decide), o (by omega)]; exact hs') (fun nq => absurd nq (by omega)) (fun _ _ z => ?_) (fun _ _ z m8 pm => ?_)
    · rw [g 66 (by decide), o (by omega)] at z; omega
    · rw [g 66 (by decide), o (k := 66) (by omega)]
      refine fin_ok (by omega) (inR_of (by omega) (by omega)) (hK _ (fin_act i pc (fun k _ k2 => g k k2) pm (fun k hk => up_ne hk) ?_))
      have f66 : m8 66 = h 66 := by rw [pm.1 66 (by decide) (by decide), up_ne (by decide), g 66 (by decide), o (by omega)]
      rw [g 13 (by decide), o (k := 13) (by omega), up_row, if_pos rfl, up_row, if_pos rfl, f66, b.1, o (k := 14) (by omega)]
      exact im.upd (by omega) (by omega)
  · exact spM_keeps hx hy hn e1 hf' hs' (fun nq => absurd nq (by omega)) (fun _ _ _ => fin_ok rfl (inR_of (by omega) (by omega)) (hK _ i.thr)) (fun _ _ z => by omega)
-- tells
theorem spM_tells {x z y n : Int} {h : aH} {Q : Int → aH → Prop} (hx : inR x) (hz : inR z) (hy : inR y) (hn : 0 ≤ n ∧ n ≤ 4) (e : h 61 0 = n) (hf : ∀ i, 0 ≤ i → i < 16 → 0 ≤ h 66 (1 + i) ∧ h 66 (1 + i) ≤ 9) (hs : 0 ≤ h 59 18 ∧ h 59 18 ≤ 10) (bad : ¬ (((0 ≤ x ∧ x < n) ∧ (0 ≤ z ∧ z < n) ∧ ¬ x = z) ∧ 0 ≤ y ∧ y < 4) → Q (-1) (up h 59 0 0)) (nil : ((0 ≤ x ∧ x < n) ∧ (0 ≤ z ∧ z < n) ∧ ¬ x = z) → (0 ≤ y ∧ y < 4) → h 66 (1 + (4 * x + y)) = 0 → Q (-2) (up h 59 0 0)) (good : ((0 ≤ x ∧ x < n) ∧ (0 ≤ z ∧ z < n) ∧ ¬ x = z) → (0 ≤ y ∧ y < 4) → 0 < h 66 (1 + (4 * x + y)) → ∀ m8, PushM (up h 59 0 0) m8 → ∀ h', (h' = if y = 0 then up m8 66 (1 + (4 * x + y)) (h 66 (1 + (4 * x + y)) - 1) else up (up m8 66 (1 + (4 * x + y)) (h 66 (1 + (4 * x + y)) - 1)) 66 (1 + (4 * z + y - 1)) (min 9 (h 66 (1 + (4 * z + y - 1)) + 1))) → Q (hv (h' 62) (fun i => h' 66 (1 + i)) x) h') : wp_X9_tells x z y h Q := by
  unfold wp_X9_tells
  rintro _ rfl
  have e66 : up h 59 0 0 66 = h 66 := up_ne (by decide)
  have ei : 1 + 4 * x + y = 1 + (4 * x + y) := by omega
  rw [e66, ei]
  refine sp_pairM hx hz hn (by rw [up_ne (by decide)]; exact e) (fun r1 hr1 => ⟨fun h0 => bad (by omega), fun h0 => sp_sortM hy (fun r3 hr3 => ⟨fun h3 => bad (by omega), fun h3 => ?_⟩)⟩)
  have b := hf (4 * x + y) (by omega) (by omega)
  refine ⟨⟨by omega, by omega⟩, inR_of (by omega) (by omega), fun q => nil (by omega) (by omega) q, fun q => sp_notes (by rw [thr59 (by decide)]; exact hs) (fun m8 pm => ?_)⟩
  have f66 : m8 66 = h 66 := by rw [pm.1 66 (by decide) (by decide), e66]
  rw [f66]
  rintro _ rfl
  have g := good (by omega) (by omega) (by omega) m8 pm
  refine ⟨hy, fun q2 => ?_, fun q2 => ?_⟩
  · unfold wp_X9_tells_J74
    exact sp_heavinessM (by omega) (g _ (by rw [if_pos (by omega)]))
  · have b2 := hf (4 * z + y - 1) (by omega) (by omega)
    unfold wp_X9_gets wp_X9_tells_J74
    have ez : 1 + 4 * z + (y - 1) = 1 + (4 * z + y - 1) := by omega
    rw [ez, up_eq, if_neg (by omega), f66]
    refine ⟨⟨by omega, by omega⟩, ?_⟩
    rintro _ rfl
    refine ⟨⟨inR_of (by omega) (by omega), trivial⟩, ?_⟩
    rintro _ rfl
    refine sp_heavinessM (by omega) (g _ ?_)
    have em : (if h 66 (1 + (4 * z + y - 1)) + 1 ≤ 9 then h 66 (1 + (4 * z + y - 1)) + 1 else 9) = min 9 (h 66 (1 + (4 * z + y - 1)) + 1) := by split <;> omega
    rw [if_neg (show ¬ y = 0 by omega), ← em]
theorem S_tells {c x z y : Int} {h : aH} {K : aH → Prop} (i : Inv c h) (hx : inR x) (hz : inR z) (hy : inR y) (hK : ∀ h', Inv (c + 1) h' → K h') : wp_X8_tells x z y h (fun r h1 => wp_X9_tells x z y h1 (fun r2 h2 => inR r ∧ inR r2 ∧ ((r = r2 → K h2) ∧ (¬ r = r2 → False)))) := by
  obtain ⟨hn, hp, e1, e2, hw, hg, hb⟩ := i.2.1
  have im := i.2.2.1
  have iu := i.2.2.2.1
  have hf' : ∀ j, 0 ≤ j → j < 16 → 0 ≤ h 66 (1 + j) ∧ h 66 (1 + j) ≤ 9 := fun j h0 h1 => by have := im.2.2.1 j h0 h1; omega
  have hs' : 0 ≤ h 59 18 ∧ h 59 18 ≤ 10 := by have := iu.2.1; have := iu.2.2.1; omega
  unfold wp_X8_tells
  have B : ¬ (((0 ≤ x ∧ x < h 3 4) ∧ (0 ≤ z ∧ z < h 3 4) ∧ ¬ x = z) ∧ 0 ≤ y ∧ y < 4) → wp_X9_tells x z y h (fun r2 h2 => inR (-1) ∧ inR r2 ∧ ((-1 = r2 → K h2) ∧ (¬ -1 = r2 → False))) := fun nq => spM_tells hx hz hy hn e1 hf' hs' (fun _ => fin_ok rfl (inR_of (by omega) (by omega)) (hK _ i.thr)) (fun q1 q2 => absurd ⟨q1, q2⟩ nq) (fun q1 q2 => absurd ⟨q1, q2⟩ nq)
  refine sp_pair hx hz hn (fun r1 hr1 => ⟨fun h0 => B (by omega), fun h0 => sp_sort hy (fun r3 hr3 => ⟨fun h3 => B (by omega), fun h3 => ?_⟩)⟩)
  rintro _ rfl
  have ei : x * 4 + y = 4 * x + y := by omega
  have ez : z * 4 + y - 1 = 4 * z + y - 1 := by omega
  rw [ei, ez]
  have b := im.2.2.1 (4 * x + y) (by omega) (by omega)
  refine ⟨⟨by omega, by omega⟩, inR_of (by omega) (by omega), fun q => ?_, fun q => sp_push iu.1 iu.2.1 (fun hp' pc => ?_)⟩
  · exact spM_tells hx hz hy hn e1 hf' hs' (fun nq => absurd nq (by omega)) (fun _ _ _ => fin_ok rfl (inR_of (by omega) (by omega)) (hK _ i.thr)) (fun _ _ q3 => by omega)
  · have o : ∀ {k : Nat}, (k ≤ 14 ∨ k = 16 ∨ 37 ≤ k) → hp' k = h k := fun hk => pc_out pc iu.1 hk
    -- what the class has then
    have main : ∀ hC : aH, (hC = if y = 0 then up hp' 14 (4 * x + y) (h 14 (4 * x + y) - 1) else up (up hp' 14 (4 * x + y) (h 14 (4 * x + y) - 1)) 14 (4 * z + y - 1) (min 9 (h 14 (4 * z + y - 1) + 1))) → wp_X8_tells_J85 x (fun r h1 => wp_X9_tells x z y h1 (fun r2 h2 => inR r ∧ inR r2 ∧ ((r = r2 → K h2) ∧ (¬ r = r2 → False)))) hC := by
      intro hC eq
      have g : ∀ k, k ≠ 14 → hC k = hp' k := fun k hk => by
        rw [eq]
        split
        · rw [up_ne hk]
        · rw [up_ne hk, up_ne hk]
      have MRx : ∀ (m8 h' : aH), m8 66 = h 66 → (h' = if y = 0 then up m8 66 (1 + (4 * x + y)) (h 66 (1 + (4 * x + y)) - 1) else up (up m8 66 (1 + (4 * x + y)) (h 66 (1 + (4 * x + y)) - 1)) 66 (1 + (4 * z + y - 1)) (min 9 (h 66 (1 + (4 * z + y - 1)) + 1))) → MR (h 3 4) (h 13 1) (h 13 2) (hC 14) (h' 66) := by
        intro m8 h' f66 eq2
        by_cases hy0 : y = 0
        · rw [if_pos hy0] at eq eq2
          rw [eq, eq2, up_row, if_pos rfl, up_row, if_pos rfl, f66, b.1, o (k := 14) (by omega)]
          exact im.upd (by omega) (by omega)
        · have b2 := im.2.2.1 (4 * z + y - 1) (by omega) (by omega)
          rw [if_neg hy0] at eq eq2
          rw [eq, eq2, up_row, if_pos rfl, up_row, if_pos rfl, up_row, if_pos rfl, up_row, if_pos rfl, f66, b.1, b2.1, o (k := 14) (by omega)]
          exact (im.upd (k := 4 * x + y) (v := h 14 (4 * x + y) - 1) (by omega) (by omega)).upd (by omega) (by omega)
      have mr0 := MRx (up h 59 0 0) _ (up_ne (by decide)) rfl
      have hC14 : ∀ j, 0 ≤ j → j < 16 → 0 ≤ hC 14 j ∧ hC 14 j ≤ 9 := fun j h0 h1 => (mr0.2.2.1 j h0 h1).2
      unfold wp_X8_tells_J85
      refine sp_heavi (by omega) hC14 (by rw [g 6 (by decide), o (by omega)]; exact i.grw) ?_
      rw [g 4 (by decide), o (k := 4) (by omega)]
      have bb := hv_bd (w := h 4) (f := hC 14) (p := x) (by omega) (fun j h0 h1 => (hw j h0 h1).2) hC14
      refine spM_tells hx hz hy hn (by rw [g 61 (by decide), o (by omega)]; exact e1) (by rw [g 66 (by decide), o (by omega)]; exact hf') (by rw [g 59 (by decide), o (by omega)]; exact hs') (fun nq => absurd nq (by omega)) (fun _ _ q3 => ?_) (fun _ _ q3 m8 pm h' eq2 => ?_)
      · rw [g 66 (by decide), o (by omega)] at q3; omega
      · rw [g 66 (by decide), o (k := 66) (by omega)] at eq2
        have f66 : m8 66 = h 66 := by rw [pm.1 66 (by decide) (by decide), up_ne (by decide), g 66 (by decide), o (by omega)]
        have mr := MRx m8 h' f66 eq2
        have eM : ∀ k, k ≠ 66 → h' k = m8 k := fun k hk => by
          rw [eq2]
          split
          · rw [up_ne hk]
          · rw [up_ne hk, up_ne hk]
        refine fin_ok ?_ (inR_of (by omega) (by omega)) (hK _ (fin_act i pc (fun k _ k2 => g k k2) pm eM (by rw [g 13 (by decide), o (k := 13) (by omega)]; exact mr)))
        refine (hv_cong (by omega) (fun j h0 h1 => ?_) (fun j h0 h1 => (mr.2.2.1 j h0 h1).1)).symm
        rw [eM 62 (by decide), pm.1 62 (by decide) (by decide), up_ne (by decide), g 62 (by decide), o (k := 62) (by omega)]
        exact (hw j h0 h1).1
    rw [o (k := 14) (by omega)]
    rintro _ rfl
    refine ⟨hy, fun q2 => main _ (by rw [if_pos (by omega)]), fun q2 => ?_⟩
    unfold wp_X4_add
    have b2 := im.2.2.1 (4 * z + y - 1) (by omega) (by omega)
    rw [up_eq, if_neg (by omega), o (k := 14) (by omega)]
    refine ⟨⟨by omega, by omega⟩, inR_of (by omega) (by omega), ?_⟩
    rintro _ rfl
    exact main _ (by rw [if_neg (by omega)])
