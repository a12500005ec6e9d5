-- THE REFERENCE'S READER: tokens
def RCt (a : Int → Int) (L : Int) (h : aH) : Prop := h 59 3 = L ∧ ∀ i, 0 ≤ i → i < L → h 60 i = a i
def ltA (a : Int → Int) (L x : Int) : Int := if L ≤ x then -1 else a x
theorem ltA_bd {a : Int → Int} {L x : Int} (tx : TX a L) (hx : 0 ≤ x) : -1 ≤ ltA a L x ∧ ltA a L x < 256 ∧ (0 ≤ ltA a L x ↔ x < L) := by
  unfold ltA
  by_cases q : L ≤ x
  · rw [if_pos q]; omega
  · rw [if_neg q]
    have := tx.2 x hx (by omega)
    omega
theorem ltA_in {a : Int → Int} {L x : Int} (hx : x < L) : ltA a L x = a x := by unfold ltA; rw [if_neg (by omega)]
theorem spM_letter {a : Int → Int} {L x : Int} {h : aH} {Q : Int → Prop} (tx : TX a L) (rc : RCt a L h) (hx : 0 ≤ x ∧ x ≤ L) (k : Q (ltA a L x)) : wp_X9_letterAt x h Q := by
  have hL := tx.1
  unfold wp_X9_letterAt
  rw [rc.1]
  refine ⟨⟨inR_of (by omega) (by omega), inR_of (by omega) (by omega), fun _ => trivial, fun q => ⟨⟨by omega, by omega⟩, trivial⟩⟩, ?_⟩
  unfold ltA at k
  by_cases q : L ≤ x
  · rw [if_pos q] at k ⊢; exact k
  · rw [if_neg q] at k ⊢; rw [rc.2 x (by omega) (by omega)]; exact k
theorem RCt.fr {a : Int → Int} {L : Int} {h h' : aH} (r : RCt a L h) (e1 : h' 59 3 = h 59 3) (e2 : h' 60 = h 60) : RCt a L h' := by
  unfold RCt
  rw [e1, e2]
  exact r
/-- token j lies in the reference's fields -/
def RTk (a : Int → Int) (L : Int) (g : aH) (j : Nat) : Prop := g 59 6 = tS a L j ∧ g 59 5 = tK a L j ∧ (tK a L j = 1 ∨ tK a L j = 2 → g 59 7 = tV a L j) ∧ g 59 4 = tT a L (j + 1)
theorem spM_digits {a : Int → Int} {L : Int} {j : Nat} {h : aH} {Q : aH → Prop} (tx : TX a L) (rc : RCt a L h) (hs : tS a L j < L) (hd : isD a L (tS a L j) = true) (e4 : h 59 4 = tS a L j) (e6 : h 59 6 = tS a L j) (e7 : h 59 7 = 0) (kk : ∀ g : aH, (∀ c, c ≠ 59 → g c = h c) → (∀ i : Int, ¬ i = 4 → ¬ i = 5 → ¬ i = 6 → ¬ i = 7 → g 59 i = h 59 i) → RTk a L g j → Q g) : lp (fun X y => wp_X9_advances_B71 Q (a (tS a L j)) X y) h := by
  have hL := tx.1
  have b := tS_bd tx j
  have d0 := isD_iff.mp hd
  refine lp.rule (μ := fun y => (151 - y 59 4).toNat) (I := fun y => (∀ c, c ≠ 59 → y c = h c) ∧ (∀ i : Int, ¬ i = 4 → ¬ i = 7 → y 59 i = h 59 i) ∧ (tS a L j ≤ y 59 4 ∧ y 59 4 ≤ L) ∧ (∀ i, tS a L j ≤ i → i < y 59 4 → isD a L i = true) ∧ (0 ≤ y 59 7 ∧ y 59 7 ≤ 999) ∧ (y 59 4 = tS a L j → y 59 7 = 0) ∧ (y 59 4 = tS a L j + 1 → y 59 7 = a (tS a L j) - 48) ∧ (y 59 4 = tS a L j + 2 → y 59 7 = 10 * (a (tS a L j) - 48) + (a (tS a L j + 1) - 48)) ∧ (tS a L j + 3 ≤ y 59 4 → 49 ≤ a (tS a L j) → 99 < y 59 7)) ?_ h ⟨fun _ _ => rfl, fun _ _ _ => rfl, ⟨by omega, by omega⟩, fun i i0 i1 => by omega, by omega, fun _ => e7, fun z => by omega, fun z => by omega, fun z => by omega⟩
  rintro X y ⟨y1, y2, y3, y4, y5, v0, v1, v2, v3⟩ hX
  have ry : RCt a L y := rc.fr (y2 3 (by decide) (by decide)) (y1 60 (by decide))
  have ey6 : y 59 6 = tS a L j := by rw [y2 6 (by decide) (by decide)]; exact e6
  have lb := ltA_bd tx (x := y 59 4) (by omega)
  unfold wp_X9_advances_B71
  refine spM_letter tx ry ⟨by omega, by omega⟩ (sp_in2 (inR_of (by omega) (by omega)) (inR_of (by omega) (by omega)) (inR_of (by omega) (by omega)) (fun q => ?_) (fun q1 q2 => ?_))
  · -- behind the last figure
    have nd : isD a L (y 59 4) = false := by
      rw [← Bool.not_eq_true, isD_iff]
      intro z
      rw [ltA_in z.1] at q
      exact q z.2
    have ee : y 59 4 = edp a L (tS a L j) := RN.uniq ⟨y3.1, y4, nd⟩ (edp_ok tx (by omega))
    have el := (edp_le tx (p := tS a L j) ⟨by omega, by omega⟩).2.2.1 hd
    rw [ey6]
    refine ⟨⟨inR_of (by omega) (by omega), fun _ => trivial, fun _ => ⟨fun _ => ⟨inR_of (by omega) (by omega), trivial⟩, fun _ => trivial⟩⟩, ?_⟩
    rintro _ rfl
    have ek : tK a L j = if edp a L (tS a L j) - tS a L j = 1 ∨ (edp a L (tS a L j) - tS a L j = 2 ∧ ¬ a (tS a L j) = 48) then 2 else 4 := by
      unfold tK tkS
      rw [if_neg (by omega), if_pos hd]
    have eT : tT a L (j + 1) = edp a L (tS a L j) := by rw [tT_s]; unfold nxS; rw [if_neg (by omega), if_pos hd]
    refine kk _ (fun c hc => by rw [up_ne hc, y1 c hc]) (fun i i4 i5 i6 i7 => by rw [up_eq, if_neg i5, y2 i i4 i7]) ⟨by rw [up_eq, if_neg (by decide)]; exact ey6, ?_, fun z => ?_, by rw [up_eq, if_neg (by decide), eT]; exact ee⟩
    · rw [up_eq, if_pos rfl, ek]
      by_cases w1 : y 59 4 = tS a L j + 1
      · have := v1 w1
        rw [if_neg (by omega), if_pos (Or.inl (by omega))]
        by_cases w : a (tS a L j) = 48
        · rw [if_pos w, if_pos (by omega)]
        · rw [if_neg w]
      · by_cases w2 : y 59 4 = tS a L j + 2
        · have := v2 w2
          have d1 := isD_iff.mp (y4 (tS a L j + 1) (by omega) (by omega))
          rw [if_neg (by omega)]
          by_cases w : a (tS a L j) = 48
          · rw [if_pos w, if_neg (by omega), if_neg (by omega)]
          · rw [if_neg w, if_pos (Or.inr ⟨by omega, w⟩)]
        · rw [if_neg (c := edp a L (tS a L j) - tS a L j = 1 ∨ (edp a L (tS a L j) - tS a L j = 2 ∧ ¬ a (tS a L j) = 48)) (by omega)]
          by_cases w : a (tS a L j) = 48
          · rw [if_pos w, if_neg (c := y 59 4 - tS a L j ≤ 1) (by omega)]
            split <;> rfl
          · rw [if_pos (v3 (by omega) (by omega))]
    · have z : tK a L j = 2 := by
        rcases z with z | z
        · rw [ek] at z
          exfalso
          revert z
          split <;> omega
        · exact z
      rw [ek] at z
      have w : edp a L (tS a L j) - tS a L j = 1 ∨ (edp a L (tS a L j) - tS a L j = 2 ∧ ¬ a (tS a L j) = 48) := by
        by_cases w : edp a L (tS a L j) - tS a L j = 1 ∨ (edp a L (tS a L j) - tS a L j = 2 ∧ ¬ a (tS a L j) = 48)
        · exact w
        · rw [if_neg w] at z; omega
      rw [up_eq, if_neg (by decide)]
      unfold tV vlS
      rw [if_pos hd]
      rcases w with w | w
      · rw [if_pos w]; exact v1 (by omega)
      · rw [if_neg (by omega)]; exact v2 (by omega)
  · -- a figure
    have hy : y 59 4 < L := by
      have := lb.2.2.mp (by omega)
      exact this
    rw [ltA_in hy] at q1 q2
    have go : ∀ v : Int, (0 ≤ v ∧ v ≤ 999) → (y 59 4 = tS a L j → v = a (tS a L j) - 48) → (y 59 4 = tS a L j + 1 → v = 10 * (a (tS a L j) - 48) + (a (tS a L j + 1) - 48)) → (tS a L j + 2 ≤ y 59 4 → 49 ≤ a (tS a L j) → 99 < v) → wp_X9_advances_J125 X y v := by
      intro v w0 w1 w2 w3
      unfold wp_X9_advances_J125
      rintro _ rfl
      rw [show up y 59 7 v 59 4 = y 59 4 by rw [up_eq, if_neg (by decide)]]
      rintro _ rfl
      have f4 : up (up y 59 7 v) 59 4 (y 59 4 + 1) 59 4 = y 59 4 + 1 := by rw [up_eq, if_pos rfl]
      have f7 : up (up y 59 7 v) 59 4 (y 59 4 + 1) 59 7 = v := by rw [up_eq, if_neg (by decide), up_eq, if_pos rfl]
      refine hX _ ⟨fun c hc => by rw [up_ne hc, up_ne hc, y1 c hc], fun i i4 i7 => by rw [up_eq, if_neg i4, up_eq, if_neg i7, y2 i i4 i7], by rw [f4]; omega, fun i i0 i1 => ?_, by rw [f7]; exact w0, fun z => ?_, fun z => ?_, fun z => ?_, fun z z2 => ?_⟩ (by rw [f4]; omega)
      · rw [f4] at i1
        by_cases z : i = y 59 4
        · rw [z]; exact isD_iff.mpr ⟨hy, q1, q2⟩
        · exact y4 i i0 (by omega)
      · rw [f4] at z; omega
      · rw [f4] at z; rw [f7]; exact w1 (by omega)
      · rw [f4] at z; rw [f7]; exact w2 (by omega)
      · rw [f4] at z; rw [f7]; exact w3 (by omega) z2
    refine ⟨inR_of (by omega) (by omega), fun q3 => spM_letter tx ry ⟨by omega, by omega⟩ ?_, fun q3 => go _ y5 (fun z => ?_) (fun z => ?_) (fun z z2 => by omega)⟩
    · rw [ltA_in hy]
      refine go _ (by omega) (fun z => ?_) (fun z => ?_) (fun z z2 => ?_)
      · rw [v0 z, z]; omega
      · rw [v1 z, z]; omega
      · by_cases z3 : y 59 4 = tS a L j + 2
        · have := v2 z3
          have d1 := isD_iff.mp (y4 (tS a L j + 1) (by omega) (by omega))
          omega
        · have := v3 (by omega) z2
          omega
    · have := v0 z
      omega
    · have := v1 z
      omega
theorem spM_adv {a : Int → Int} {L : Int} {j : Nat} {h : aH} {Q : aH → Prop} (tx : TX a L) (rc : RCt a L h) (e4 : h 59 4 = tT a L j) (kk : ∀ g : aH, (∀ c, c ≠ 59 → g c = h c) → (∀ i : Int, ¬ i = 4 → ¬ i = 5 → ¬ i = 6 → ¬ i = 7 → g 59 i = h 59 i) → RTk a L g j → Q g) : wp_X9_advances h Q := by
  have hL := tx.1
  have b := tS_bd tx j
  have bT := tT_bd tx j
  unfold wp_X9_advances
  refine lp.rule (μ := fun y => (151 - y 59 4).toNat) (I := fun y => (∀ c, c ≠ 59 → y c = h c) ∧ (∀ i : Int, ¬ i = 4 → y 59 i = h 59 i) ∧ (tT a L j ≤ y 59 4 ∧ y 59 4 ≤ L) ∧ ∀ i, tT a L j ≤ i → i < y 59 4 → isB a L i = true) ?_ h ⟨fun _ _ => rfl, fun _ _ => rfl, ⟨by omega, by omega⟩, fun i i0 i1 => by omega⟩
  rintro X y ⟨y1, y2, y3, y4⟩ hX
  have ry : RCt a L y := rc.fr (y2 3 (by decide)) (y1 60 (by decide))
  have lb := ltA_bd tx (x := y 59 4) (by omega)
  unfold wp_X9_advances_B0
  refine spM_letter tx ry ⟨by omega, by omega⟩ ⟨inR_of (by omega) (by omega), fun q => ?_, fun q => ?_⟩
  · have hy : y 59 4 < L := lb.2.2.mp (by omega)
    rw [ltA_in hy] at q
    rintro _ rfl
    have f4 : up y 59 4 (y 59 4 + 1) 59 4 = y 59 4 + 1 := by rw [up_eq, if_pos rfl]
    refine hX _ ⟨fun c hc => by rw [up_ne hc, y1 c hc], fun i hi => by rw [up_eq, if_neg hi, y2 i hi], by rw [f4]; omega, fun i i0 i1 => ?_⟩ (by rw [f4]; omega)
    rw [f4] at i1
    by_cases z : i = y 59 4
    · rw [z]; exact isB_iff.mpr ⟨hy, q⟩
    · exact y4 i i0 (by omega)
  · have nb : isB a L (y 59 4) = false := by
      rw [← Bool.not_eq_true, isB_iff]
      intro z
      rw [ltA_in z.1] at q
      exact q z.2
    have ey : y 59 4 = tS a L j := RN.uniq ⟨y3.1, y4, nb⟩ (skp_ok tx bT.1)
    rw [ey] at lb ⊢
    rintro _ rfl
    have f4 : up y 59 6 (tS a L j) 59 4 = tS a L j := by rw [up_eq, if_neg (by decide)]; exact ey
    have rc4 : RCt a L (up y 59 6 (tS a L j)) := ry.fr (by rw [up_eq, if_neg (by decide)]) (by rw [up_ne (by decide)])
    rw [f4]
    refine spM_letter tx rc4 ⟨by omega, by omega⟩ ⟨inR_of (by omega) (by omega), fun q2 => ?_, fun q2 => ?_⟩
    · have hs : tS a L j < L := lb.2.2.mp q2
      have ha := tx.2 _ b.1 hs
      rw [ltA_in hs]
      refine sp_in2 (inR_of (by omega) (by omega)) (inR_of (by omega) (by omega)) (inR_of (by omega) (by omega)) (fun q3 => ?_) (fun q3 q4 => ?_)
      · have nd : ¬ isD a L (tS a L j) = true := by
          rw [isD_iff]
          exact fun z => q3 z.2
        rintro _ rfl
        rintro _ rfl
        rintro _ rfl
        refine kk _ (fun c hc => by rw [up_ne hc, up_ne hc, up_ne hc, up_ne hc, y1 c hc]) (fun i i4 i5 i6 i7 => by rw [up_eq, if_neg i5, up_eq, if_neg i7, up_eq, if_neg i4, up_eq, if_neg i6, y2 i i4]) ⟨by rw [up_eq, if_neg (by decide), up_eq, if_neg (by decide), up_eq, if_neg (by decide), up_eq, if_pos rfl], ?_, fun _ => ?_, ?_⟩
        · rw [up_eq, if_pos rfl]
          unfold tK tkS
          rw [if_neg (c := L ≤ tS a L j) (by omega), if_neg nd]
          by_cases w : a (tS a L j) = 59
          · rw [if_pos w, if_pos w]
          · rw [if_neg w, if_neg w]
            by_cases w1 : a (tS a L j) = 115
            · rw [if_pos w1, if_pos (Or.inl w1)]
            · rw [if_neg w1]
              by_cases w2 : a (tS a L j) = 112
              · rw [if_pos w2, if_pos (Or.inr (Or.inl w2))]
              · rw [if_neg w2]
                by_cases w3 : a (tS a L j) = 103
                · rw [if_pos w3, if_pos (Or.inr (Or.inr (Or.inl w3)))]
                · rw [if_neg w3]
                  by_cases w4 : a (tS a L j) = 98
                  · rw [if_pos w4, if_pos (Or.inr (Or.inr (Or.inr w4)))]
                  · rw [if_neg w4, if_neg (by omega)]
        · rw [up_eq, if_neg (by decide), up_eq, if_pos rfl]
          unfold tV vlS
          rw [if_neg nd]
        · rw [up_eq, if_neg (by decide), up_eq, if_neg (by decide), up_eq, if_pos rfl, tT_s]
          unfold nxS
          rw [if_neg (by omega), if_neg nd]
      · rintro _ rfl
        refine spM_digits tx (rc4.fr (by rw [up_eq, if_neg (by decide)]) (by rw [up_ne (by decide)])) hs (isD_iff.mpr ⟨hs, q3, q4⟩) (by rw [up_eq, if_neg (by decide)]; exact f4) (by rw [up_eq, if_neg (by decide), up_eq, if_pos rfl]) (by rw [up_eq, if_pos rfl]) (fun g k1 k2 k3 => kk g (fun c hc => by rw [k1 c hc, up_ne hc, up_ne hc, y1 c hc]) (fun i i4 i5 i6 i7 => by rw [k2 i i4 i5 i6 i7, up_eq, if_neg i7, up_eq, if_neg i6, y2 i i4]) k3)
    · have hs : L ≤ tS a L j := by
        by_cases z : L ≤ tS a L j
        · exact z
        · exact absurd (lb.2.2.mpr (by omega)) q2
      rintro _ rfl
      refine kk _ (fun c hc => by rw [up_ne hc, up_ne hc, y1 c hc]) (fun i i4 i5 i6 i7 => by rw [up_eq, if_neg i5, up_eq, if_neg i6, y2 i i4]) ⟨by rw [up_eq, if_neg (by decide), up_eq, if_pos rfl], by rw [up_eq, if_pos rfl, tK_0.mpr hs], fun z => ?_, ?_⟩
      · rw [tK_0.mpr hs] at z; omega
      · rw [up_eq, if_neg (by decide), f4, tT_s]
        unfold nxS
        rw [if_pos hs]
/-- the reference's reader stands at token j, or has found the fault f -/
def RSt (a : Int → Int) (L : Int) (h : aH) (f : Int) (j : Nat) : Prop := RCt a L h ∧ h 59 8 = f ∧ (0 ≤ h 59 5 ∧ h 59 5 ≤ 4) ∧ (h 59 5 = 2 → 0 ≤ h 59 7 ∧ h 59 7 ≤ 999) ∧ ((f = -1 ∧ RTk a L h j) ∨ (0 ≤ f ∧ f ≤ 150))
def R59 (h g : aH) : Prop := (∀ c, c ≠ 59 → g c = h c) ∧ ∀ i : Int, ¬ i = 4 → ¬ i = 5 → ¬ i = 6 → ¬ i = 7 → ¬ i = 8 → g 59 i = h 59 i
theorem R59.rf {h : aH} : R59 h h := ⟨fun _ _ => rfl, fun _ _ _ _ _ _ => rfl⟩
theorem R59.tr {h g k : aH} (a : R59 h g) (b : R59 g k) : R59 h k := ⟨fun c hc => by rw [b.1 c hc, a.1 c hc], fun i i4 i5 i6 i7 i8 => by rw [b.2 i i4 i5 i6 i7 i8, a.2 i i4 i5 i6 i7 i8]⟩
theorem RSt.bd {a : Int → Int} {L f : Int} {h : aH} {j : Nat} (s : RSt a L h f j) : (f = -1 ∨ 0 ≤ f) ∧ f ≤ 150 := by
  rcases s.2.2.2.2 with z | z <;> omega
theorem RSt.tk {a : Int → Int} {L : Int} {h : aH} {j : Nat} (s : RSt a L h (-1) j) : RTk a L h j := by
  rcases s.2.2.2.2 with z | z
  · exact z.2
  · omega
theorem RSt.fr {a : Int → Int} {L f : Int} {h h' : aH} {j : Nat} (s : RSt a L h f j) (e1 : h' 59 = h 59) (e2 : h' 60 = h 60) : RSt a L h' f j := by
  unfold RSt RCt RTk at *
  rw [e1, e2]
  exact s
theorem RSt.j {a : Int → Int} {L f : Int} {h : aH} {j k : Nat} (s : RSt a L h f j) (e : j = k) : RSt a L h f k := e ▸ s
theorem RSt.any {a : Int → Int} {L f : Int} {h : aH} {j k : Nat} (s : RSt a L h f j) (hf : ¬ f = -1) : RSt a L h f k := ⟨s.1, s.2.1, s.2.2.1, s.2.2.2.1, Or.inr (by have := s.bd; omega)⟩
theorem spM_well {h : aH} {f : Int} {Q : Int → Prop} (e : h 59 8 = f) (hf : (f = -1 ∨ 0 ≤ f) ∧ f ≤ 150) (k1 : f = -1 → Q 1) (k0 : ¬ f = -1 → Q 0) : wp_X9_isWell h Q := by
  unfold wp_X9_isWell
  rw [e]
  refine ⟨⟨inR_of (by omega) (by omega), trivial⟩, ?_⟩
  by_cases z : f = -1
  · rw [if_neg (by omega)]; exact k1 z
  · rw [if_pos (by omega)]; exact k0 z
theorem spM_takes {a : Int → Int} {L f x : Int} {b : Bool} {j : Nat} {h : aH} {Q : Int → aH → Prop} (tx : TX a L) (hx : (x = 1 ∧ b = true) ∨ (x = 0 ∧ b = false)) (rs : RSt a L h f j) (kk : ∀ r g, R59 h g → RSt a L g (nfl f b (tS a L j)) (j + 1) → (nfl f b (tS a L j) = -1 → r = h 59 7) → (¬ nfl f b (tS a L j) = -1 → r = 0) → Q r g) : wp_X9_takes x h Q := by
  have hL := tx.1
  have bS := tS_bd tx j
  have bd := rs.bd
  unfold wp_X9_takes
  refine spM_well rs.2.1 bd (fun z => ⟨fun y => by omega, fun _ => ?_⟩) (fun z => ⟨fun _ => ?_, fun y => absurd rfl y⟩)
  · subst z
    obtain ⟨t1, t2, t3, t4⟩ := rs.tk
    refine ⟨inR_of (by omega) (by omega), fun y => ?_, fun y => ?_⟩
    · have hb : ¬ b = true := by
        rcases hx with hx | hx
        · omega
        · rw [hx.2]; decide
      rintro _ rfl
      refine kk _ _ ⟨fun c hc => up_ne hc, fun i i4 i5 i6 i7 i8 => by rw [up_eq, if_neg i8]⟩ ⟨rs.1.fr (by rw [up_eq, if_neg (by decide)]) (by rw [up_ne (by decide)]), by rw [up_eq, if_pos rfl, t1, nfl_no hb], by rw [up_eq, if_neg (by decide)]; exact rs.2.2.1, by rw [up_eq, if_neg (by decide), up_eq, if_neg (by decide)]; exact rs.2.2.2.1, Or.inr (by rw [nfl_no hb]; omega)⟩ (fun w => ?_) (fun _ => rfl)
      rw [nfl_no hb] at w
      omega
    · have hb : b = true := by
        rcases hx with hx | hx
        · exact hx.2
        · omega
      rintro _ rfl
      refine spM_adv tx rs.1 t4 (fun g k1 k2 k3 => ?_)
      have tb := tk_bd (a := a) (L := L) (s := tS a L (j + 1))
      refine kk _ g ⟨k1, fun i i4 i5 i6 i7 _ => k2 i i4 i5 i6 i7⟩ ⟨rs.1.fr (k2 3 (by decide) (by decide) (by decide) (by decide)) (k1 60 (by decide)), by rw [k2 8 (by decide) (by decide) (by decide) (by decide), nfl_yes hb]; exact rs.2.1, by rw [k3.2.1]; exact tb, fun w => ?_, Or.inl ⟨nfl_yes hb, k3⟩⟩ (fun _ => rfl) (fun w => absurd (nfl_yes hb) w)
      rw [k3.2.1] at w
      have := tV_2 tx w
      rw [k3.2.2.1 (Or.inr w)]
      omega
  · refine kk _ _ R59.rf ⟨rs.1, by rw [nfl_old z]; exact rs.2.1, rs.2.2.1, rs.2.2.2.1, Or.inr (by rw [nfl_old z]; omega)⟩ (fun w => ?_) (fun _ => rfl)
    rw [nfl_old z] at w
    exact absurd w z
theorem nfl_cg {f s : Int} {b b' : Bool} (h : f = -1 → b = b') : nfl f b s = nfl f b' s := by
  by_cases z : f = -1
  · rw [h z]
  · rw [nfl_old z, nfl_old z]
theorem spM_number {a : Int → Int} {L f lo hi : Int} {j : Nat} {h : aH} {Q : Int → aH → Prop} (tx : TX a L) (hlo : inR lo) (hhi : inR hi) (rs : RSt a L h f j) (kk : ∀ r g, R59 h g → RSt a L g (nfl f (okn a L lo hi j) (tS a L j)) (j + 1) → (nfl f (okn a L lo hi j) (tS a L j) = -1 → r = tV a L j) → (¬ nfl f (okn a L lo hi j) (tS a L j) = -1 → r = 0) → Q r g) : wp_X9_number lo hi h Q := by
  have bS := tS_bd tx j
  have key : ∀ (x : Int) (b : Bool), (x = 1 ∧ b = true) ∨ (x = 0 ∧ b = false) → (f = -1 → b = okn a L lo hi j) → wp_X9_takes x h (fun r g => Q r g) := by
    intro x b hx hb
    refine spM_takes tx hx rs (fun r g k1 k2 k3 k4 => ?_)
    rw [nfl_cg hb] at k2 k3 k4
    refine kk r g k1 k2 (fun w => ?_) k4
    obtain ⟨w1, w2⟩ := (nfl_iff bS.1).mp w
    subst w1
    rw [k3 w, rs.tk.2.2.1 (Or.inr (okn_iff.mp w2).1)]
  unfold wp_X9_number
  have b5 := rs.2.2.1
  refine ⟨inR_of (by omega) (by omega), fun q => ?_, fun q => key 0 false (Or.inr ⟨rfl, rfl⟩) (fun z => ?_)⟩
  · have b7 := rs.2.2.2.1 q
    refine sp_in (inR_of (by omega) (by omega)) hlo hhi (fun r hr => ?_)
    rcases hr with hr | hr
    · rw [hr.1, if_pos rfl]
      refine key 0 false (Or.inr ⟨rfl, rfl⟩) (fun z => ?_)
      subst z
      have t := rs.tk
      symm
      rw [← Bool.not_eq_true, okn_iff]
      rintro ⟨w1, w2⟩
      rw [← t.2.2.1 (Or.inr w1)] at w2
      exact hr.2 w2
    · rw [hr.1, if_neg (by decide)]
      refine key 1 true (Or.inl ⟨rfl, rfl⟩) (fun z => ?_)
      subst z
      have t := rs.tk
      have w1 : tK a L j = 2 := by rw [← t.2.1]; exact q
      symm
      rw [okn_iff, ← t.2.2.1 (Or.inr w1)]
      exact ⟨w1, hr.2⟩
  · subst z
    have t := rs.tk
    symm
    rw [← Bool.not_eq_true, okn_iff]
    rintro ⟨w1, w2⟩
    rw [t.2.1] at q
    exact q w1
