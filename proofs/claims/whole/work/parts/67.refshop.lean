-- THE REFERENCE'S shop: begins, all items, settles
theorem spM_begins {h : aH} {Q : aH → Prop} (kk : ∀ g : aH, (∀ c, c ≠ 61 → c ≠ 62 → c ≠ 64 → g c = h c) → (∀ i : Int, i < 2 → g 61 i = h 61 i) → g 61 2 = 0 → g 61 3 = 0 → (∀ i : Int, i < 4 → g 62 i = h 62 i) → (∀ i, 0 ≤ i → i < 4 → g 62 (4 + i) = (i + 1) * (i + 1)) → (∀ i : Int, i < 16 → g 64 i = h 64 i) → (∀ i, 0 ≤ i → i < 16 → g 64 (16 + i) = 0) → Q g) : wp_X9_begins h Q := by
  unfold wp_X9_begins
  rintro _ rfl
  rintro _ rfl
  refine lp.rule (μ := fun y => (5 - y.1).toNat) (I := fun y => (0 ≤ y.1 ∧ y.1 ≤ 4) ∧ (∀ c, c ≠ 61 → c ≠ 62 → y.2 c = h c) ∧ (∀ i : Int, i < 2 → y.2 61 i = h 61 i) ∧ y.2 61 2 = 0 ∧ y.2 61 3 = 0 ∧ (∀ i : Int, i < 4 → y.2 62 i = h 62 i) ∧ ∀ i, 0 ≤ i → i < y.1 → y.2 62 (4 + i) = (i + 1) * (i + 1)) ?_ (0, _) ⟨⟨by dsimp only; omega, by dsimp only; omega⟩, fun c c1 c2 => by dsimp only; rw [up_ne c1, up_ne c1], fun i hi => by dsimp only; rw [up_eq, if_neg (by omega), up_eq, if_neg (by omega)], by dsimp only; rw [up_eq, if_neg (by decide), up_eq, if_pos rfl], by dsimp only; rw [up_eq, if_pos rfl], fun i hi => by dsimp only; rw [up_ne (by decide), up_ne (by decide)], fun i i0 i1 => by dsimp only at i1; omega⟩
  rintro X ⟨t, g⟩ ⟨⟨t0, t1⟩, g1, g2, g3, g4, g5, g6⟩ hX
  dsimp only at t0 t1 g1 g2 g3 g4 g5 g6 ⊢
  unfold wp_X9_begins_B16
  refine ⟨inR_of (by omega) (by omega), fun q => ?_, fun q => ⟨⟨by omega, by omega⟩, ?_⟩⟩
  · have et : t = 4 := by omega
    subst et
    refine lp.rule (μ := fun y => (33 - y.1).toNat) (I := fun y => (16 ≤ y.1 ∧ y.1 ≤ 32) ∧ (∀ c, c ≠ 64 → y.2 c = g c) ∧ (∀ i : Int, i < 16 → y.2 64 i = h 64 i) ∧ ∀ i, 16 ≤ i → i < y.1 → y.2 64 i = 0) ?_ (16, g) ⟨⟨by dsimp only; omega, by dsimp only; omega⟩, fun _ _ => rfl, fun i _ => by dsimp only; rw [g1 64 (by decide) (by decide)], fun i i0 i1 => by dsimp only at i1; omega⟩
    rintro X2 ⟨t, y⟩ ⟨⟨t0, t1⟩, y1, y2, y3⟩ hX2
    dsimp only at t0 t1 y1 y2 y3 ⊢
    unfold wp_X9_begins_B45
    refine ⟨inR_of (by omega) (by omega), fun q => ?_, fun q => ⟨⟨by omega, by omega⟩, ?_⟩⟩
    · refine kk y (fun c c1 c2 c3 => by rw [y1 c c3, g1 c c1 c2]) (fun i hi => by rw [y1 61 (by decide)]; exact g2 i hi) (by rw [y1 61 (by decide)]; exact g3) (by rw [y1 61 (by decide)]; exact g4) (fun i hi => by rw [y1 62 (by decide)]; exact g5 i hi) (fun i i0 i1 => by rw [y1 62 (by decide)]; exact g6 i i0 i1) y2 (fun i i0 i1 => y3 (16 + i) (by omega) (by omega))
    · rintro _ rfl
      refine hX2 _ ⟨⟨by dsimp only; omega, by dsimp only; omega⟩, fun c hc => by dsimp only; rw [up_ne hc, y1 c hc], fun i hi => by dsimp only; rw [up_eq, if_neg (by omega)]; exact y2 i hi, fun i i0 i1 => ?_⟩ (by dsimp only; omega)
      dsimp only at i1 ⊢
      rw [up_eq]
      by_cases z : i = t
      · rw [if_pos z]
      · rw [if_neg z]; exact y3 i i0 (by omega)
  · rintro _ rfl
    refine hX _ ⟨⟨by dsimp only; omega, by dsimp only; omega⟩, fun c c1 c2 => by dsimp only; rw [up_ne c2, g1 c c1 c2], fun i hi => by dsimp only; rw [up_ne (by decide)]; exact g2 i hi, by dsimp only; rw [up_ne (by decide)]; exact g3, by dsimp only; rw [up_ne (by decide)]; exact g4, fun i hi => by dsimp only; rw [up_eq, if_neg (by omega)]; exact g5 i hi, fun i i0 i1 => ?_⟩ (by dsimp only; omega)
    dsimp only at i1 ⊢
    rw [up_eq]
    by_cases z : i = t
    · rw [z, if_pos rfl]
    · rw [if_neg (by omega)]; exact g6 i i0 (by omega)
theorem spM_may {a : Int → Int} {L n pc : Int} {j : Nat} {h : aH} {Q : Int → Prop} (hk : tK a L j = 1) (e7 : h 59 7 = tV a L j) (hn : 0 ≤ n ∧ n ≤ 4) (hpc : 0 ≤ pc ∧ pc ≤ 5) (en : h 61 2 = n) (ep : h 61 3 = pc) (k1 : may a L j n pc = true → Q 1) (k0 : ¬ may a L j n pc = true → Q 0) : wp_X9_mayBegin h Q := by
  have v1 := tV_1 hk
  unfold wp_X9_mayBegin
  rw [e7, en, ep]
  refine ⟨⟨inR_of (by omega) (by omega), fun _ => ⟨inR_of (by omega) (by omega), trivial⟩, fun _ => ⟨fun _ => ⟨inR_of (by omega) (by omega), trivial⟩, fun _ => trivial⟩⟩, ?_⟩
  by_cases z : tV a L j = 112
  · rw [if_pos z]
    by_cases y : 4 ≤ n
    · rw [if_pos y]; exact k0 (fun w => by have := (may_iff.mp w).2.1 z; omega)
    · rw [if_neg y]; exact k1 (may_iff.mpr ⟨hk, fun _ => by omega, fun _ => by omega⟩)
  · rw [if_neg z]
    by_cases z2 : tV a L j = 98
    · rw [if_pos z2]
      by_cases y : 5 ≤ pc
      · rw [if_pos y]; exact k0 (fun w => by have := (may_iff.mp w).2.2 z2; omega)
      · rw [if_neg y]; exact k1 (may_iff.mpr ⟨hk, fun _ => by omega, fun _ => by omega⟩)
    · rw [if_neg z2]; exact k1 (may_iff.mpr ⟨hk, fun w => absurd w z, fun w => absurd w z2⟩)
/-- the stop of an item -/
theorem spM_stop {a : Int → Int} {L F : Int} {je : Nat} {h : aH} {Q : aH → Prop} (tx : TX a L) (rs : RSt a L h F je) (kk : ∀ g, R59 h g → RSt a L g (nfl F (oke a L je) (tS a L je)) (je + 1) → Q g) : (inR (h 59 5) ∧ True) ∧ wp_X9_takes (if h 59 5 = 3 then 1 else 0 : Int) h (fun _ g => Q g) := by
  have b5 := rs.2.2.1
  refine ⟨⟨inR_of (by omega) (by omega), trivial⟩, ?_⟩
  refine spM_takes (b := decide (h 59 5 = 3)) tx ?_ rs (fun r g k1 k2 _ _ => kk g k1 ?_)
  · by_cases z : h 59 5 = 3
    · exact Or.inl ⟨if_pos z, by simpa using z⟩
    · exact Or.inr ⟨if_neg z, by simpa using z⟩
  · rw [nfl_cg (b' := oke a L je)] at k2
    · exact k2
    · intro z
      subst z
      rw [rs.tk.2.1]
      rfl
theorem spM_shop {a : Int → Int} {L : Int} {x0 : PS} {J : Nat} {h : aH} {Q : Int → aH → Prop} (tx : TX a L) (rc : RCt a L h) (d0 : D0 x0) (ns : ∀ i, i < J → ¬ STOP a L (itN a L x0 i)) (hst : STOP a L (itN a L x0 J)) (bad : ∀ g, ¬ (itN a L x0 J).1 = -1 → (itN a L x0 J).1 ≤ 150 → 0 ≤ (itN a L x0 J).1 → RFr h g → Q (-10 - (itN a L x0 J).1) g) (good : ∀ g, (itN a L x0 J).1 = -1 → DOK (itN a L x0 J) → RFr h g → RDr g (itN a L x0 J) → wp_X9_settles g (fun g2 => Q (J : Int) g2)) : wp_X9_shop h Q := by
  have hL := tx.1
  unfold wp_X9_shop
  rintro _ rfl
  rintro _ rfl
  rintro _ rfl
  refine spM_begins (fun g f1 f2 f3 f4 f5 f6 f7 f8 => ?_)
  have r0 : RFr h (up (up (up h 59 0 0) 59 8 (-1)) 59 4 0) := ((RFr.up59 (by omega)).tr (RFr.up59 (by omega))).tr (RFr.up59 (by omega))
  have r1 : RFr h g := r0.tr ⟨fun c c1 c2 => f1 c (by omega) (by omega) (by omega), fun i _ _ _ _ _ _ => by rw [f1 59 (by decide) (by decide) (by decide)], f2, f5, f7, fun i _ => by rw [f1 65 (by decide) (by decide) (by decide)]⟩
  have rcg : RCt a L g := rc.fr (r1.2.1 3 (by decide) (by decide) (by decide) (by decide) (by decide) (by decide)) (r1.1 60 (by decide) (by decide))
  have e8 : g 59 8 = -1 := by rw [f1 59 (by decide) (by decide) (by decide), up_eq, if_neg (by decide), up_eq, if_pos rfl]
  have e4 : g 59 4 = 0 := by rw [f1 59 (by decide) (by decide) (by decide), up_eq, if_pos rfl]
  refine spM_adv (j := 0) tx rcg e4 (fun g2 k1 k2 k3 => ?_)
  have tb := tk_bd (a := a) (L := L) (s := tS a L 0)
  have rs0 : RSt a L g2 (-1) 0 := ⟨rcg.fr (k2 3 (by decide) (by decide) (by decide) (by decide)) (k1 60 (by decide)), by rw [k2 8 (by decide) (by decide) (by decide) (by decide)]; exact e8, by rw [k3.2.1]; exact tb, fun w => by
    rw [k3.2.1] at w
    have := tV_2 tx w
    rw [k3.2.2.1 (Or.inr w)]
    omega, Or.inl ⟨rfl, k3⟩⟩
  have q59 : R59 g g2 := ⟨k1, fun i i4 i5 i6 i7 _ => k2 i i4 i5 i6 i7⟩
  have r2 : RFr h g2 := r1.tr q59.fr
  have rd0 : RDr g2 x0 := by
    refine q59.dr ?_
    unfold RDr
    obtain ⟨d1, d2, d3, d4, d5, d6, d7⟩ := d0
    rw [d3, d4]
    exact ⟨f3, f4, fun i i0 i1 => by rw [f6 i i0 i1, d5 i i0 i1], fun i i0 i1 => by omega, fun i i0 i1 => by rw [f8 i i0 i1, d7 i i0 i1], fun i i0 i1 => by omega⟩
  refine lp.rule (μ := fun y => ((J : Int) + 1 - y.1).toNat) (I := fun y => ∃ i : Nat, y.1 = (i : Int) ∧ i ≤ J ∧ RFr h y.2 ∧ RSt a L y.2 (itN a L x0 i).1 (itN a L x0 i).2.1 ∧ ((itN a L x0 i).1 = -1 → RDr y.2 (itN a L x0 i))) ?_ (0, g2) ⟨0, rfl, by omega, r2, by show RSt a L g2 x0.1 x0.2.1; rw [d0.1, d0.2.1]; exact rs0, fun _ => rd0⟩
  rintro X ⟨t, y⟩ ⟨i, et, hi, y1, y2, y3⟩ hX
  dsimp only at et y1 y2 y3 ⊢
  subst et
  have ro := run_ok tx d0 i (fun i' h' => ns i' (by omega))
  have bd := y2.bd
  have out : STOP a L (itN a L x0 i) → wp_X9_shop_J100 Q (i : Int) y := by
    intro z
    have ei : i = J := by
      by_cases w : i < J
      · exact absurd z (ns i w)
      · omega
    subst ei
    unfold wp_X9_shop_J100
    refine spM_well y2.2.1 bd (fun w => ⟨fun w2 => by omega, fun _ => good y w (ro w).1 y1 (y3 w)⟩) (fun w => ⟨fun _ => ?_, fun w2 => absurd rfl w2⟩)
    rw [y2.2.1]
    exact bad y w bd.2 (by omega) y1
  unfold wp_X9_shop_B25
  refine spM_well y2.2.1 bd (fun w => ⟨fun w2 => by omega, fun _ => ?_⟩) (fun w => ⟨fun _ => out (Or.inl w), fun w2 => absurd rfl w2⟩)
  have b5 := y2.2.2.1
  have tk : RTk a L y (itN a L x0 i).2.1 := RSt.tk (w ▸ y2)
  refine ⟨inR_of (by omega) (by omega), fun w2 => out (Or.inr (by rw [← tk.2.1]; exact w2)), fun w2 => ?_⟩
  have ni : i < J := by
    by_cases z : i < J
    · exact z
    · have ei : i = J := by omega
      subst ei
      rcases hst with z2 | z2
      · exact absurd w z2
      · rw [← tk.2.1] at z2; exact absurd z2 w2
  have dk := (ro w).1
  have rd := y3 w
  have hX2 : ∀ g' : aH, RFr h g' → RSt a L g' (stp a L (itN a L x0 i)).1 (stp a L (itN a L x0 i)).2.1 → ((stp a L (itN a L x0 i)).1 = -1 → RDr g' (stp a L (itN a L x0 i))) → X ((i : Int) + 1, g') := fun g' fr' rs' rd' => hX _ ⟨i + 1, by dsimp only; omega, by omega, fr', rs', rd'⟩ (by dsimp only; omega)
  clear hX out ro y3 hst ns
  generalize itN a L x0 i = x at *
  obtain ⟨f, j, n, pc, w', fh, gr, b⟩ := x
  dsimp only at w tk bd y2
  subst w
  have hn : 0 ≤ n ∧ n ≤ 4 := dk.1
  have hpc : 0 ≤ pc ∧ pc ≤ 5 := dk.2.1
  have bS := tS_bd tx j
  -- the token isn't one that may stand here
  have wrong : ¬ may a L j n pc = true → ∀ (g3 : aH), R59 y g3 → RSt a L g3 (tS a L j) (j + 1) → (inR (g3 59 5) ∧ True) ∧ wp_X9_takes (if g3 59 5 = 3 then 1 else 0 : Int) g3 (fun _ g => X ((i : Int) + 1, g)) := by
    intro hm g3 q1 q2
    refine spM_stop tx q2 (fun g4 q3 q4 => hX2 g4 ((y1.tr q1.fr).tr q3.fr) ?_ ?_)
    · rw [stp_no hm]
      dsimp only
      rw [nfl_old (by omega)] at q4
      exact q4.any (by omega)
    · rw [stp_no hm]
      dsimp only
      intro z
      omega
  refine ⟨fun w3 => ?_, fun w3 => ?_⟩
  · have hk : tK a L j = 1 := by rw [← tk.2.1]; exact w3
    refine spM_may hk (tk.2.2.1 (Or.inl hk)) hn hpc rd.1 rd.2.1 (fun hm => ?_) (fun hm => ?_)
    · rw [if_neg (by decide)]
      refine spM_takes (b := true) tx (Or.inl ⟨rfl, rfl⟩) y2 (fun r g3 q1 q2 q3 q4 => ?_)
      have e1 : nfl (-1) true (tS a L j) = -1 := nfl_yes rfl
      rw [e1] at q2
      have er : r = tV a L j := by rw [q3 e1, tk.2.2.1 (Or.inl hk)]
      refine spM_well q2.2.1 (by omega) (fun _ => ⟨fun w4 => by omega, fun _ => ?_⟩) (fun w4 => absurd rfl w4)
      rw [er]
      refine spM_rItem tx hn hpc hm q2 (q1.dr rd) (fun g4 F je p1 p2 p3 p4 p5 => ?_)
      unfold wp_X9_shop_J76
      refine spM_stop tx p2 (fun g5 q5 q6 => hX2 g5 (((y1.tr q1.fr).tr p1).tr q5.fr) ?_ ?_)
      · rw [p3, p4]; exact q6
      · intro z
        rw [p3] at z
        exact q5.dr (p5 ((nfl_iff (tS_bd tx _).1).mp z).1)
    · rw [if_pos rfl]
      refine spM_takes (b := false) tx (Or.inr ⟨rfl, rfl⟩) y2 (fun r g3 q1 q2 q3 q4 => ?_)
      rw [nfl_no (by decide)] at q2
      refine spM_well q2.2.1 q2.bd (fun w4 => by omega) (fun _ => ⟨fun _ => ?_, fun w4 => absurd rfl w4⟩)
      unfold wp_X9_shop_J76
      exact wrong hm g3 q1 q2
  · have hm : ¬ may a L j n pc = true := fun z => w3 (by rw [tk.2.1]; exact (may_iff.mp z).1)
    refine spM_takes (b := false) tx (Or.inr ⟨rfl, rfl⟩) y2 (fun r g3 q1 q2 q3 q4 => ?_)
    rw [nfl_no (by decide)] at q2
    refine spM_well q2.2.1 q2.bd (fun w4 => by omega) (fun _ => ⟨fun _ => ?_, fun w4 => absurd rfl w4⟩)
    unfold wp_X9_shop_J76a
    exact wrong hm g3 q1 q2
