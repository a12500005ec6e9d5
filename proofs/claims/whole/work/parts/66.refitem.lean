-- THE REFERENCE'S READER: items
def RDr (h : aH) (x : PS) : Prop := h 61 2 = x.2.2.1 ∧ h 61 3 = x.2.2.2.1 ∧ (∀ i, 0 ≤ i → i < 4 → h 62 (4 + i) = x.2.2.2.2.1 i) ∧ (∀ i, 0 ≤ i → i < 4 * x.2.2.1 → h 63 i = x.2.2.2.2.2.1 i) ∧ (∀ i, 0 ≤ i → i < 16 → h 64 (16 + i) = x.2.2.2.2.2.2.1 i) ∧ ∀ i, 0 ≤ i → i < x.2.2.2.1 → h 65 (5 + i) = x.2.2.2.2.2.2.2 i
/-- nothing of what was told before has changed -/
def RFr (h g : aH) : Prop := (∀ c, c ≠ 59 → ¬ (61 ≤ c ∧ c ≤ 65) → g c = h c) ∧ (∀ i : Int, ¬ i = 0 → ¬ i = 4 → ¬ i = 5 → ¬ i = 6 → ¬ i = 7 → ¬ i = 8 → g 59 i = h 59 i) ∧ (∀ i : Int, i < 2 → g 61 i = h 61 i) ∧ (∀ i : Int, i < 4 → g 62 i = h 62 i) ∧ (∀ i : Int, i < 16 → g 64 i = h 64 i) ∧ ∀ i : Int, i < 5 → g 65 i = h 65 i
theorem RFr.tr {h g k : aH} (a : RFr h g) (b : RFr g k) : RFr h k := ⟨fun c c1 c2 => by rw [b.1 c c1 c2, a.1 c c1 c2], fun i i0 i4 i5 i6 i7 i8 => by rw [b.2.1 i i0 i4 i5 i6 i7 i8, a.2.1 i i0 i4 i5 i6 i7 i8], fun i hi => by rw [b.2.2.1 i hi, a.2.2.1 i hi], fun i hi => by rw [b.2.2.2.1 i hi, a.2.2.2.1 i hi], fun i hi => by rw [b.2.2.2.2.1 i hi, a.2.2.2.2.1 i hi], fun i hi => by rw [b.2.2.2.2.2 i hi, a.2.2.2.2.2 i hi]⟩
theorem R59.fr {h g : aH} (a : R59 h g) : RFr h g := ⟨fun c c1 _ => a.1 c c1, fun i _ i4 i5 i6 i7 i8 => a.2 i i4 i5 i6 i7 i8, fun i _ => by rw [a.1 61 (by decide)], fun i _ => by rw [a.1 62 (by decide)], fun i _ => by rw [a.1 64 (by decide)], fun i _ => by rw [a.1 65 (by decide)]⟩
theorem R59.dr {h g : aH} {x : PS} (a : R59 h g) (d : RDr h x) : RDr g x := by
  unfold RDr at *
  rw [a.1 61 (by decide), a.1 62 (by decide), a.1 63 (by decide), a.1 64 (by decide), a.1 65 (by decide)]
  exact d
theorem RFr.up62 {h : aH} {k v : Int} (hk : 4 ≤ k) : RFr h (up h 62 k v) := ⟨fun c c1 c2 => up_ne (by omega), fun i _ _ _ _ _ _ => by rw [up_ne (by decide)], fun i _ => by rw [up_ne (by decide)], fun i hi => by rw [up_eq, if_neg (by omega)], fun i _ => by rw [up_ne (by decide)], fun i _ => by rw [up_ne (by decide)]⟩
theorem RFr.up64 {h : aH} {k v : Int} (hk : 16 ≤ k) : RFr h (up h 64 k v) := ⟨fun c c1 c2 => up_ne (by omega), fun i _ _ _ _ _ _ => by rw [up_ne (by decide)], fun i _ => by rw [up_ne (by decide)], fun i _ => by rw [up_ne (by decide)], fun i hi => by rw [up_eq, if_neg (by omega)], fun i _ => by rw [up_ne (by decide)]⟩
theorem RFr.up65 {h : aH} {k v : Int} (hk : 5 ≤ k) : RFr h (up h 65 k v) := ⟨fun c c1 c2 => up_ne (by omega), fun i _ _ _ _ _ _ => by rw [up_ne (by decide)], fun i _ => by rw [up_ne (by decide)], fun i _ => by rw [up_ne (by decide)], fun i _ => by rw [up_ne (by decide)], fun i hi => by rw [up_eq, if_neg (by omega)]⟩
theorem RFr.up61 {h : aH} {k v : Int} (hk : 2 ≤ k) : RFr h (up h 61 k v) := ⟨fun c c1 c2 => up_ne (by omega), fun i _ _ _ _ _ _ => by rw [up_ne (by decide)], fun i hi => by rw [up_eq, if_neg (by omega)], fun i _ => by rw [up_ne (by decide)], fun i _ => by rw [up_ne (by decide)], fun i _ => by rw [up_ne (by decide)]⟩
theorem RFr.up63 {h : aH} {k v : Int} : RFr h (up h 63 k v) := ⟨fun c c1 c2 => up_ne (by omega), fun i _ _ _ _ _ _ => by rw [up_ne (by decide)], fun i hi => by rw [up_ne (by decide)], fun i _ => by rw [up_ne (by decide)], fun i _ => by rw [up_ne (by decide)], fun i _ => by rw [up_ne (by decide)]⟩
theorem RFr.up59 {h : aH} {k v : Int} (hk : k = 0 ∨ k = 4 ∨ k = 5 ∨ k = 6 ∨ k = 7 ∨ k = 8) : RFr h (up h 59 k v) := ⟨fun c c1 c2 => up_ne (by omega), fun i i0 i4 i5 i6 i7 i8 => by rw [up_eq, if_neg (by omega)], fun i hi => by rw [up_ne (by decide)], fun i _ => by rw [up_ne (by decide)], fun i _ => by rw [up_ne (by decide)], fun i _ => by rw [up_ne (by decide)]⟩
theorem fhp_lo {a : Int → Int} {L n : Int} {fh : Int → Int} {j : Nat} {i : Int} (hi : i < 4 * n) : ∀ {k : Nat}, fhp a L fh n j k i = fh i
  | 0 => rfl
  | k + 1 => by
    rw [fhp_s]
    unfold setI
    rw [if_neg (by omega)]
    exact fhp_lo hi
theorem spM_rPerson {a : Int → Int} {L n pc : Int} {w fh gr b : Int → Int} {j : Nat} {h : aH} {Q : aH → Prop} (tx : TX a L) (hn : 0 ≤ n ∧ n < 4) (rs : RSt a L h (-1) (j + 1)) (rd : RDr h (-1, j, n, pc, w, fh, gr, b)) (kk : ∀ g, RFr h g → RSt a L g (fpp a L (-1) j 4) (j + 1 + 4) → (fpp a L (-1) j 4 = -1 → RDr g (fP a L (-1) j, j + 6, n + 1, pc, w, fhp a L fh n j 4, gr, b)) → Q g) : lp (fun X y => wp_X9_readsItem_B48 Q n X y.1 y.2) (0, h) := by
  obtain ⟨r1, r2, r3, r4, r5, r6⟩ := rd
  dsimp only at r1 r2 r3 r4 r5 r6
  refine lp.rule (μ := fun y => (5 - y.1).toNat) (I := fun y => ∃ m : Nat, m ≤ 4 ∧ y.1 = (m : Int) ∧ RFr h y.2 ∧ (∀ c, c ≠ 59 → c ≠ 63 → y.2 c = h c) ∧ RSt a L y.2 (fpp a L (-1) j m) (j + 1 + m) ∧ (fpp a L (-1) j m = -1 → ∀ i, 0 ≤ i → i < 4 * n + (m : Int) → y.2 63 i = fhp a L fh n j m i)) ?_ (0, h) ⟨0, by omega, rfl, R59.rf.fr, fun _ _ _ => rfl, rs, fun _ i i0 i1 => r4 i i0 (by omega)⟩
  rintro X ⟨t, g⟩ ⟨m, hm, et, g1, g2, g3, g4⟩ hX
  dsimp only at et g1 g2 g3 g4 ⊢
  subst et
  unfold wp_X9_readsItem_B48
  refine ⟨inR_of (by omega) (by omega), fun q => ?_, fun q => ?_⟩
  · have em : m = 4 := by omega
    subst em
    rintro _ rfl
    rw [g2 61 (by decide) (by decide), r1]
    refine kk _ (g1.tr (RFr.up61 (by omega))) (g3.fr (up_ne (by decide)) (up_ne (by decide))) (fun z => ?_)
    unfold RDr
    dsimp only
    rw [up_eq, if_pos rfl, up_eq, if_neg (by decide), up_ne (k' := 62) (by decide), up_ne (k' := 63) (by decide), up_ne (k' := 64) (by decide), up_ne (k' := 65) (by decide), g2 61 (by decide) (by decide), g2 62 (by decide) (by decide), g2 64 (by decide) (by decide), g2 65 (by decide) (by decide)]
    exact ⟨rfl, r2, r3, fun i i0 i1 => g4 z i i0 (by omega), r5, r6⟩
  · refine spM_number tx (inR_of (by omega) (by omega)) (inR_of (by omega) (by omega)) g3 (fun r g5 k1 k2 k3 k4 => ⟨⟨by omega, by omega⟩, ?_⟩)
    rintro _ rfl
    rw [← fpp_s] at k2 k3 k4
    refine hX _ ⟨m + 1, by omega, by dsimp only; omega, (g1.tr k1.fr).tr RFr.up63, fun c c1 c2 => by dsimp only; rw [up_ne c2, k1.1 c c1, g2 c c1 c2], (k2.fr (by dsimp only; rw [up_ne (by decide)]) (by dsimp only; rw [up_ne (by decide)])).j rfl, fun z i i0 i1 => ?_⟩ (by dsimp only; omega)
    have z1 := ((nfl_iff (tS_bd tx _).1).mp (fpp_s ▸ z)).1
    dsimp only
    rw [up_eq, fhp_s]
    unfold setI
    by_cases y : i = 4 * n + (m : Int)
    · rw [if_pos y, if_pos y]; exact k3 z
    · rw [if_neg y, if_neg y, k1.1 63 (by decide)]; exact g4 z1 i i0 (by omega)
/-- an item read behind its letter, ahead of its stop -/
theorem spM_rItem {a : Int → Int} {L n pc : Int} {w fh gr b : Int → Int} {j : Nat} {h : aH} {Q : aH → Prop} (tx : TX a L) (hn : 0 ≤ n ∧ n ≤ 4) (hpc : 0 ≤ pc ∧ pc ≤ 5) (hm : may a L j n pc = true) (rs : RSt a L h (-1) (j + 1)) (rd : RDr h (-1, j, n, pc, w, fh, gr, b)) (kk : ∀ (g : aH) (F : Int) (je : Nat), RFr h g → RSt a L g F je → (stp a L (-1, j, n, pc, w, fh, gr, b)).1 = nfl F (oke a L je) (tS a L je) → (stp a L (-1, j, n, pc, w, fh, gr, b)).2.1 = je + 1 → (F = -1 → RDr g (stp a L (-1, j, n, pc, w, fh, gr, b))) → Q g) : wp_X9_readsItem (tV a L j) h Q := by
  have m := may_iff.mp hm
  have v1 := tV_1 m.1
  have rd' := rd
  obtain ⟨r1, r2, r3, r4, r5, r6⟩ := rd
  dsimp only at r1 r2 r3 r4 r5 r6
  unfold wp_X9_readsItem
  refine ⟨inR_of (by omega) (by omega), fun z => ?_, fun z => ⟨fun z2 => ?_, fun z2 => ⟨fun z3 => ?_, fun z3 => ?_⟩⟩⟩
  · rw [stp_W hm z] at kk
    refine spM_number tx (inR_of (by omega) (by omega)) (inR_of (by omega) (by omega)) rs (fun x1 g1 a1 a2 a3 a4 => spM_number tx (inR_of (by omega) (by omega)) (inR_of (by omega) (by omega)) a2 (fun x2 g2 b1 b2 b3 b4 => ?_))
    have hx1 : 0 ≤ x1 ∧ x1 ≤ 3 := by
      by_cases y : nfl (-1) (okn a L 0 3 (j + 1)) (tS a L (j + 1)) = -1
      · have := okn_iff.mp ((nfl_iff (tS_bd tx _).1).mp y).2
        rw [a3 y]; omega
      · rw [a4 y]; omega
    refine ⟨⟨by omega, by omega⟩, ?_⟩
    rintro _ rfl
    have e := a1.tr b1
    refine kk _ _ (j + 1 + 1 + 1) (e.fr.tr (RFr.up62 (by omega))) (b2.fr (up_ne (by decide)) (up_ne (by decide))) rfl rfl (fun y => ?_)
    have y1 := ((nfl_iff (tS_bd tx _).1).mp y).1
    rw [← a3 y1, ← b3 y]
    unfold RDr
    dsimp only
    rw [up_ne (k' := 61) (by decide), up_ne (k' := 63) (by decide), up_ne (k' := 64) (by decide), up_ne (k' := 65) (by decide), e.1 61 (by decide), e.1 63 (by decide), e.1 64 (by decide), e.1 65 (by decide)]
    refine ⟨r1, r2, fun i i0 i1 => ?_, r4, r5, r6⟩
    rw [up_eq, e.1 62 (by decide)]
    unfold setI
    by_cases u : i = x1
    · rw [if_pos (by omega), if_pos u]
    · rw [if_neg (by omega), if_neg u]; exact r3 i i0 i1
  · rw [stp_P hm z2] at kk
    have hn4 := m.2.1 z2
    rintro _ rfl
    rw [r1]
    exact spM_rPerson tx ⟨hn.1, hn4⟩ rs rd' (fun g k1 k2 k3 => kk g _ (j + 1 + 4) k1 k2 rfl rfl k3)
  · rw [stp_G hm z3] at kk
    rw [r1]
    refine spM_number tx (inR_of (by omega) (by omega)) (inR_of (by omega) (by omega)) rs (fun x1 g1 a1 a2 a3 a4 => spM_number tx (inR_of (by omega) (by omega)) (inR_of (by omega) (by omega)) a2 (fun x2 g2 b1 b2 b3 b4 => spM_number tx (inR_of (by omega) (by omega)) (inR_of (by omega) (by omega)) b2 (fun x3 g3 c1 c2 c3 c4 => ?_)))
    have hx1 : 0 ≤ x1 ∧ x1 ≤ 3 := by
      by_cases y : nfl (-1) (okn a L 0 (n - 1) (j + 1)) (tS a L (j + 1)) = -1
      · have := okn_iff.mp ((nfl_iff (tS_bd tx _).1).mp y).2
        rw [a3 y]; omega
      · rw [a4 y]; omega
    have hx2 : 0 ≤ x2 ∧ x2 ≤ 3 := by
      by_cases y : nfl (nfl (-1) (okn a L 0 (n - 1) (j + 1)) (tS a L (j + 1))) (okn a L 0 3 (j + 1 + 1)) (tS a L (j + 1 + 1)) = -1
      · have := okn_iff.mp ((nfl_iff (tS_bd tx _).1).mp y).2
        rw [b3 y]; omega
      · rw [b4 y]; omega
    refine ⟨⟨by omega, by omega⟩, ?_⟩
    rintro _ rfl
    have e := (a1.tr b1).tr c1
    refine kk _ _ (j + 1 + 1 + 1 + 1) (e.fr.tr (RFr.up64 (by omega))) (c2.fr (up_ne (by decide)) (up_ne (by decide))) rfl rfl (fun y => ?_)
    have y2 := ((nfl_iff (tS_bd tx _).1).mp y).1
    have y1 := ((nfl_iff (tS_bd tx _).1).mp y2).1
    rw [← a3 y1, ← b3 y2, ← c3 y]
    unfold RDr
    dsimp only
    rw [up_ne (k' := 61) (by decide), up_ne (k' := 62) (by decide), up_ne (k' := 63) (by decide), up_ne (k' := 65) (by decide), e.1 61 (by decide), e.1 62 (by decide), e.1 63 (by decide), e.1 65 (by decide)]
    refine ⟨r1, r2, r3, r4, fun i i0 i1 => ?_, r6⟩
    rw [up_eq, e.1 64 (by decide)]
    unfold setI
    by_cases u : i = x1 * 4 + x2
    · rw [if_pos (by omega), if_pos u]
    · rw [if_neg (by omega), if_neg u]; exact r5 i i0 i1
  · have z4 : tV a L j = 98 := by omega
    rw [stp_B hm z4] at kk
    have hp5 := m.2.2 z4
    rw [r2]
    refine spM_number tx (inR_of (by omega) (by omega)) (inR_of (by omega) (by omega)) rs (fun x1 g1 a1 a2 a3 a4 => ⟨⟨by omega, by omega⟩, ?_⟩)
    rintro _ rfl
    rw [up_ne (k' := 61) (by decide), a1.1 61 (by decide), r2]
    rintro _ rfl
    refine kk _ _ (j + 1 + 1) ((a1.fr.tr (RFr.up65 (by omega))).tr (RFr.up61 (by omega))) (a2.fr (by rw [up_ne (by decide), up_ne (by decide)]) (by rw [up_ne (by decide), up_ne (by decide)])) rfl rfl (fun y => ?_)
    rw [← a3 y]
    unfold RDr
    dsimp only
    rw [up_eq, if_neg (by decide), up_eq, if_pos rfl, up_ne (k' := 61) (by decide), up_ne (k' := 62) (by decide), up_ne (k' := 62) (by decide), up_ne (k' := 63) (by decide), up_ne (k' := 63) (by decide), up_ne (k' := 64) (by decide), up_ne (k' := 64) (by decide), up_ne (k' := 65) (k := 61) (by decide), a1.1 61 (by decide), a1.1 62 (by decide), a1.1 63 (by decide), a1.1 64 (by decide)]
    refine ⟨r1, rfl, r3, r4, r5, fun i i0 i1 => ?_⟩
    rw [up_eq, a1.1 65 (by decide)]
    unfold setI
    by_cases u : i = pc
    · rw [if_pos (by omega), if_pos u]
    · rw [if_neg (by omega), if_neg u]; exact r6 i i0 (by omega)
