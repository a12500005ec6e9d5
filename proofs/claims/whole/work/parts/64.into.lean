-- ALL ITEMS: the class reads them
def DOK (x : PS) : Prop := (0 ≤ x.2.2.1 ∧ x.2.2.1 ≤ 4) ∧ (0 ≤ x.2.2.2.1 ∧ x.2.2.2.1 ≤ 5) ∧ (∀ i, 0 ≤ i → i < 4 → 1 ≤ x.2.2.2.2.1 i ∧ x.2.2.2.2.1 i ≤ 20) ∧ (∀ i, 0 ≤ i → i < 16 → 0 ≤ x.2.2.2.2.2.1 i ∧ x.2.2.2.2.2.1 i ≤ 9 ∧ (4 * x.2.2.1 ≤ i → x.2.2.2.2.2.1 i = 0)) ∧ (∀ i, 0 ≤ i → i < 16 → 0 ≤ x.2.2.2.2.2.2.1 i ∧ x.2.2.2.2.2.2.1 i ≤ 3 ∧ (4 * x.2.2.1 ≤ i → x.2.2.2.2.2.2.1 i = 0)) ∧ ∀ i, 0 ≤ i → i < x.2.2.2.1 → 1 ≤ x.2.2.2.2.2.2.2 i ∧ x.2.2.2.2.2.2.2 i ≤ 60
theorem tT_mono {a : Int → Int} {L : Int} (tx : TX a L) (j : Nat) : ∀ m : Nat, tT a L j ≤ tT a L (j + m)
  | 0 => Int.le_refl _
  | m + 1 => by
    have h := tT_mono tx j m
    have b := tS_bd tx (j + m)
    rw [← Nat.add_assoc]
    omega
theorem fpp_all {a : Int → Int} {L f0 : Int} {j : Nat} (tx : TX a L) : ∀ {k : Nat}, fpp a L f0 j k = -1 → ∀ m, m < k → okn a L 0 9 (j + 1 + m) = true
  | 0, _, m, hm => absurd hm (Nat.not_lt_zero _)
  | k + 1, h, m, hm => by
    obtain ⟨h1, h2⟩ := (nfl_iff (tS_bd tx _).1).mp (fpp_s ▸ h)
    by_cases z : m = k
    · rw [z]; exact h2
    · exact fpp_all tx h1 m (by omega)
theorem fhp_v {a : Int → Int} {L n : Int} {fh : Int → Int} {j : Nat} : ∀ {k : Nat}, (∀ m, m < k → okn a L 0 9 (j + 1 + m) = true) → ∀ i, (4 * n ≤ i ∧ i < 4 * n + (k : Int) ∧ 0 ≤ fhp a L fh n j k i ∧ fhp a L fh n j k i ≤ 9) ∨ (¬ (4 * n ≤ i ∧ i < 4 * n + (k : Int)) ∧ fhp a L fh n j k i = fh i)
  | 0, _, i => Or.inr ⟨by omega, rfl⟩
  | k + 1, h, i => by
    rw [fhp_s]
    unfold setI
    by_cases z : i = 4 * n + (k : Int)
    · rw [if_pos z]
      have := okn_iff.mp (h k (by omega))
      exact Or.inl ⟨by omega, by omega, by omega, by omega⟩
    · rw [if_neg z]
      rcases fhp_v (k := k) (n := n) (fh := fh) (fun m hm => h m (by omega)) i with y | y
      · exact Or.inl ⟨y.1, by omega, y.2.2⟩
      · exact Or.inr ⟨by omega, y.2⟩
theorem DOK_stp {a : Int → Int} {L f n pc : Int} {w fh gr b : Int → Int} {j : Nat} (tx : TX a L) (d : DOK (f, j, n, pc, w, fh, gr, b)) (h : (stp a L (f, j, n, pc, w, fh, gr, b)).1 = -1) : DOK (stp a L (f, j, n, pc, w, fh, gr, b)) ∧ tT a L j + 1 ≤ tT a L (stp a L (f, j, n, pc, w, fh, gr, b)).2.1 := by
  have bS := tS_bd tx j
  by_cases hm : may a L j n pc = true
  · have m := may_iff.mp hm
    have v1 := tV_1 m.1
    have mono : ∀ k : Nat, tT a L j + 1 ≤ tT a L (j + 1 + k) := fun k => by
      have := tT_mono tx (j + 1) k
      have := bS.2.2.2.2 v1.1
      omega
    unfold DOK at d
    dsimp only at d
    obtain ⟨d1, d2, d3, d4, d5, d6⟩ := d
    rcases v1.2.2.2.1 with z | z | z | z
    · rw [stp_W hm z] at h ⊢
      dsimp only at h ⊢
      refine ⟨⟨d1, d2, fun i i0 i1 => ?_, d4, d5, d6⟩, mono 3⟩
      obtain ⟨q2, o3⟩ := (nfl_iff (tS_bd tx _).1).mp h
      obtain ⟨q1, o2⟩ := (nfl_iff (tS_bd tx _).1).mp q2
      have o2 := okn_iff.mp o2
      dsimp only
      unfold setI
      by_cases y : i = tV a L (j + 1)
      · rw [if_pos y]; exact o2.2
      · rw [if_neg y]; exact d3 i i0 i1
    · rw [stp_P hm z] at h ⊢
      dsimp only at h ⊢
      have := m.2.1 z
      obtain ⟨q1, o1⟩ := (nfl_iff (tS_bd tx _).1).mp h
      have fa := fpp_all tx q1
      refine ⟨⟨by dsimp only; omega, d2, d3, fun i i0 i1 => ?_, fun i i0 i1 => ?_, d6⟩, mono 5⟩
      · dsimp only
        have := d4 i i0 i1
        have y := fhp_v (n := n) (fh := fh) fa i
        refine ⟨by omega, by omega, fun y2 => ?_⟩
        rcases y with y | y
        · omega
        · rw [y.2]; exact this.2.2 (by omega)
      · have := d5 i i0 i1
        dsimp only
        exact ⟨this.1, this.2.1, fun y => this.2.2 (by omega)⟩
    · rw [stp_G hm z] at h ⊢
      dsimp only at h ⊢
      obtain ⟨q3, o4⟩ := (nfl_iff (tS_bd tx _).1).mp h
      obtain ⟨q2, o3⟩ := (nfl_iff (tS_bd tx _).1).mp q3
      obtain ⟨q1, o2⟩ := (nfl_iff (tS_bd tx _).1).mp q2
      obtain ⟨q0, o1⟩ := (nfl_iff (tS_bd tx _).1).mp q1
      have o1 := okn_iff.mp o1
      have o2 := okn_iff.mp o2
      have o3 := okn_iff.mp o3
      refine ⟨⟨d1, d2, d3, d4, fun i i0 i1 => ?_, d6⟩, mono 4⟩
      have := d5 i i0 i1
      dsimp only
      unfold setI
      by_cases y : i = tV a L (j + 1) * 4 + tV a L (j + 1 + 1)
      · rw [if_pos y]; exact ⟨by omega, by omega, fun y2 => by omega⟩
      · rw [if_neg y]; exact this
    · rw [stp_B hm z] at h ⊢
      dsimp only at h ⊢
      have := m.2.2 z
      obtain ⟨q1, o2⟩ := (nfl_iff (tS_bd tx _).1).mp h
      obtain ⟨q0, o1⟩ := (nfl_iff (tS_bd tx _).1).mp q1
      have o1 := okn_iff.mp o1
      refine ⟨⟨d1, by dsimp only; omega, d3, d4, d5, fun i i0 i1 => ?_⟩, mono 2⟩
      dsimp only at i1 ⊢
      unfold setI
      by_cases y : i = pc
      · rw [if_pos y]; exact o1.2
      · rw [if_neg y]; exact d6 i i0 (by omega)
  · rw [stp_no hm] at h
    dsimp only at h
    omega
def itN (a : Int → Int) (L : Int) (x0 : PS) : Nat → PS
  | 0 => x0
  | i + 1 => stp a L (itN a L x0 i)
def STOP (a : Int → Int) (L : Int) (x : PS) : Prop := ¬ x.1 = -1 ∨ tK a L x.2.1 = 0
def D0 (x : PS) : Prop := x.1 = -1 ∧ x.2.1 = 0 ∧ x.2.2.1 = 0 ∧ x.2.2.2.1 = 0 ∧ (∀ i, 0 ≤ i → i < 4 → x.2.2.2.2.1 i = (i + 1) * (i + 1)) ∧ (∀ i, 0 ≤ i → i < 16 → x.2.2.2.2.2.1 i = 0) ∧ ∀ i, 0 ≤ i → i < 16 → x.2.2.2.2.2.2.1 i = 0
theorem four_i {P : Int → Prop} {i : Int} (h0 : 0 ≤ i) (h1 : i < 4) (p0 : P 0) (p1 : P 1) (p2 : P 2) (p3 : P 3) : P i := by
  rcases (show i = 0 ∨ i = 1 ∨ i = 2 ∨ i = 3 by omega) with rfl | rfl | rfl | rfl
  · exact p0
  · exact p1
  · exact p2
  · exact p3
theorem D0.dok {x : PS} (d : D0 x) : DOK x := by
  obtain ⟨d1, d2, d3, d4, d5, d6, d7⟩ := d
  unfold DOK
  rw [d3, d4]
  refine ⟨by omega, by omega, fun i i0 i1 => ?_, fun i i0 i1 => ?_, fun i i0 i1 => ?_, fun i i0 i1 => by omega⟩
  · rw [d5 i i0 i1]
    exact four_i (P := fun i => 1 ≤ (i + 1) * (i + 1) ∧ (i + 1) * (i + 1) ≤ 20) i0 i1 (by decide) (by decide) (by decide) (by decide)
  · rw [d6 i i0 i1]; exact ⟨by omega, by omega, fun _ => rfl⟩
  · rw [d7 i i0 i1]; exact ⟨by omega, by omega, fun _ => rfl⟩
theorem run_ok {a : Int → Int} {L : Int} {x0 : PS} (tx : TX a L) (d0 : D0 x0) : ∀ i : Nat, (∀ i', i' < i → ¬ STOP a L (itN a L x0 i')) → (itN a L x0 i).1 = -1 → DOK (itN a L x0 i) ∧ (i : Int) ≤ tT a L (itN a L x0 i).2.1
  | 0, _, _ => ⟨d0.dok, by show ((0 : Nat) : Int) ≤ tT a L x0.2.1; rw [d0.2.1]; exact Int.le_refl _⟩
  | i + 1, h, e => by
    have hs := h i (by omega)
    have e0 : (itN a L x0 i).1 = -1 := Decidable.byContradiction (fun z => hs (Or.inl z))
    obtain ⟨k1, k2⟩ := run_ok tx d0 i (fun i' hi => h i' (by omega)) e0
    have e1 : itN a L x0 (i + 1) = stp a L (itN a L x0 i) := rfl
    rw [e1] at e ⊢
    generalize itN a L x0 i = x at *
    obtain ⟨f, j, n, pc, w, fh, gr, b⟩ := x
    obtain ⟨k3, k4⟩ := DOK_stp tx k1 e
    dsimp only at k2
    exact ⟨k3, by omega⟩
theorem sp_makeEmpty {k : Nat} {h : aH} {Q : aH → Prop} (kk : ∀ g : aH, (∀ c, ¬ (k ≤ c ∧ c ≤ k + 4) → g c = h c) → g k 4 = 0 → g k 5 = 0 → (∀ i, 0 ≤ i → i < 4 → g (k + 1) i = (i + 1) * (i + 1)) → (∀ i, 0 ≤ i → i < 16 → g (k + 2) i = 0) → (∀ i, 0 ≤ i → i < 16 → g (k + 3) i = 0) → Q g) : wp_X7_makeEmpty k h Q := by
  unfold wp_X7_makeEmpty
  rintro _ rfl
  refine sp_fill (by decide) (fun g1 f1 v1 => sp_fill (by decide) (fun g2 f2 v2 => sp_fill (by decide) (fun g3 f3 v3 => ?_)))
  rintro _ rfl
  rintro _ rfl
  refine kk _ (fun c hc => ?_) (by rw [up_eq, if_neg (by decide), up_eq, if_pos rfl]) (by rw [up_eq, if_pos rfl]) (fun i i0 i1 => ?_) (fun i i0 i1 => ?_) (fun i i0 i1 => ?_)
  · rw [up_ne (by omega), up_ne (by omega), f3 c (by omega), f2 c (by omega), f1 c (by omega)]
    funext i
    unfold cpF
    rw [if_neg (by omega)]
  · rw [up_ne (by omega), up_ne (by omega), f3 _ (by omega), f2 _ (by omega), f1 _ (by omega)]
    unfold cpF
    rw [if_pos ⟨rfl, i0, i1⟩]
    exact four_i (P := fun i => fwv i.toNat = (i + 1) * (i + 1)) i0 i1 (by decide) (by decide) (by decide) (by decide)
  · rw [up_ne (by omega), up_ne (by omega), f3 _ (by omega), f2 _ (by omega)]
    exact v1 i i0 i1
  · rw [up_ne (by omega), up_ne (by omega), f3 _ (by omega)]
    exact v2 i i0 i1
def LH (a : Int → Int) (L : Int) (g : aH) (x : PS) : Prop := g 2 = a ∧ g 1 1 = L ∧ g 1 3 = x.1 ∧ (0 ≤ g 1 2 ∧ g 1 2 ≤ L) ∧ ((x.1 = -1 ∧ g 1 2 = tS a L x.2.1 ∧ CD g x) ∨ (0 ≤ x.1 ∧ x.1 ≤ 150))
theorem sp_readInto {a : Int → Int} {L : Int} {h : aH} {Q : Int → aH → Prop} (tx : TX a L) (ea : h 2 = a) (eL : h 1 1 = L) (kk : ∀ (x0 : PS) (J : Nat) (g : aH), D0 x0 → FrC h g → J ≤ 150 → LH a L g (itN a L x0 J) → (∀ i, i < J → ¬ STOP a L (itN a L x0 i)) → STOP a L (itN a L x0 J) → Q (J : Int) g) : wp_X6_readInto h Q := by
  have hL := tx.1
  unfold wp_X6_readInto
  refine sp_makeEmpty (fun g1 f1 z4 z5 z1 z2 z3 => ?_)
  rintro _ rfl
  rintro _ rfl
  refine sp_skip (p := 0) tx (by rw [up_ne (by decide), up_ne (by decide), f1 2 (by omega)]; exact ea) (by rw [up_eq, if_neg (by decide), up_eq, if_neg (by decide), f1 1 (by omega)]; exact eL) (by rw [up_eq, if_neg (by decide), up_eq, if_pos rfl]) ⟨by omega, by omega⟩ (fun g2 k1 k2 k3 => ?_)
  have d0 : D0 (-1, 0, 0, 0, g1 9, g1 10, g1 11, g1 12) := ⟨rfl, rfl, rfl, rfl, z1, z2, z3⟩
  have e2 : ∀ c, c ≠ 1 → g2 c = g1 c := fun c hc => by rw [k1 c hc, up_ne hc, up_ne hc]
  have b0 := skp_le tx (p := 0) ⟨by omega, by omega⟩
  refine lp.rule (μ := fun y => (151 - y.1).toNat) (I := fun y => ∃ i : Nat, y.1 = (i : Int) ∧ i ≤ 150 ∧ FrC h y.2 ∧ LH a L y.2 (itN a L (-1, 0, 0, 0, g1 9, g1 10, g1 11, g1 12) i) ∧ ∀ i', i' < i → ¬ STOP a L (itN a L (-1, 0, 0, 0, g1 9, g1 10, g1 11, g1 12) i')) ?_ (0, g2) ⟨0, rfl, by omega, fun c c1 c2 => by dsimp only; rw [e2 c c1, f1 c (by omega)], ?_, fun i' hi => absurd hi (Nat.not_lt_zero _)⟩
  · rintro X ⟨t, g⟩ ⟨i, et, hi, fr, lh, ns⟩ hX
    dsimp only at et fr lh ⊢
    subst et
    have ro := run_ok tx d0 i ns
    have kk' := kk _ i g d0 fr hi lh ns
    obtain ⟨l1, l2, l3, l4, l5⟩ := lh
    unfold wp_X6_readInto_B20 wp_X6_hasFault
    have hat : L ≤ g 1 2 → STOP a L (itN a L (-1, 0, 0, 0, g1 9, g1 10, g1 11, g1 12) i) := by
      intro z
      rcases l5 with l5 | l5
      · exact Or.inr (tK_0.mpr (by rw [← l5.2.1]; exact z))
      · exact Or.inl (by omega)
    rw [l2, l3]
    refine ⟨inR_of (by omega) (by omega), fun q => kk' ?_, fun q => ⟨inR_of (by omega) (by omega), inR_of (by omega) (by omega), fun q2 => kk' (hat q2), fun q2 => ⟨⟨inR_of (by omega) (by omega), trivial⟩, fun q3 => ?_, fun q3 => kk' (Or.inl (fl_1 q3))⟩⟩⟩
    · rcases l5 with l5 | l5
      · have := (ro l5.1).2
        have := tS_bd tx (itN a L (-1, 0, 0, 0, g1 9, g1 10, g1 11, g1 12) i).2.1
        exact hat (by omega)
      · exact Or.inl (by omega)
    · have q3 := fl_0 q3
      have l5 : g 1 2 = tS a L (itN a L (-1, 0, 0, 0, g1 9, g1 10, g1 11, g1 12) i).2.1 ∧ CD g (itN a L (-1, 0, 0, 0, g1 9, g1 10, g1 11, g1 12) i) := by
        rcases l5 with l5 | l5
        · exact l5.2
        · omega
      have ns1 : ¬ STOP a L (itN a L (-1, 0, 0, 0, g1 9, g1 10, g1 11, g1 12) i) := by
        rintro (z | z)
        · exact z q3
        · have := tK_0.mp z
          omega
      have dk := (ro q3).1
      have es : itN a L (-1, 0, 0, 0, g1 9, g1 10, g1 11, g1 12) (i + 1) = stp a L (itN a L (-1, 0, 0, 0, g1 9, g1 10, g1 11, g1 12) i) := rfl
      have hX2 : ∀ g' : aH, FrC h g' → LH a L g' (stp a L (itN a L (-1, 0, 0, 0, g1 9, g1 10, g1 11, g1 12) i)) → X ((i : Int) + 1, g') := fun g' fr' lh' => hX _ ⟨i + 1, by dsimp only; omega, by omega, fr', lh', fun i' hi' => by
        by_cases z : i' = i
        · rw [z]; exact ns1
        · exact ns i' (by omega)⟩ (by dsimp only; omega)
      clear kk' hX ns ns1 es ro hat
      generalize itN a L (-1, 0, 0, 0, g1 9, g1 10, g1 11, g1 12) i = x at *
      obtain ⟨f, j, n, pc, w, fh, gr, b⟩ := x
      dsimp only at q3 l3 l5
      subst q3
      refine sp_rItem tx dk.1 dk.2.1 l1 l2 l3 l5.1 (by omega) l5.2 (fun g3 r1 r2 => ?_)
      refine sp_skip tx r2.1.1 r2.1.2.1 rfl r2.1.2.2.2.1 (fun g4 s1 s2 s3 => hX2 g4 (fun c c1 c2 => by rw [s1 c c1, r1 c c1 c2, fr c c1 c2]) ?_)
      have sb := skp_le tx r2.1.2.2.2.1
      have rb := r2.1.2.2.2.1
      refine ⟨by rw [s1 2 (by decide)]; exact r2.1.1, by rw [s2 1 (by decide)]; exact r2.1.2.1, by rw [s2 3 (by decide)]; exact r2.1.2.2.1, by rw [s3]; omega, ?_⟩
      rcases r2.1.2.2.2.2 with y | y
      · refine Or.inl ⟨y.1, by rw [s3, y.2]; rfl, ?_⟩
        have cd := r2.2 y.1
        unfold CD at cd ⊢
        rw [s1 8 (by decide), s1 9 (by decide), s1 10 (by decide), s1 11 (by decide), s1 12 (by decide)]
        exact cd
      · exact Or.inr y
  · refine ⟨by show g2 2 = a; rw [e2 2 (by decide), f1 2 (by omega)]; exact ea, by show g2 1 1 = L; rw [k2 1 (by decide), up_eq, if_neg (by decide), up_eq, if_neg (by decide), f1 1 (by omega)]; exact eL, by show g2 1 3 = -1; rw [k2 3 (by decide), up_eq, if_pos rfl], by show 0 ≤ g2 1 2 ∧ g2 1 2 ≤ L; rw [k3]; omega, Or.inl ⟨rfl, k3, ?_⟩⟩
    unfold CD
    dsimp only [itN]
    rw [e2 8 (by decide), e2 9 (by decide), e2 10 (by decide), e2 11 (by decide), e2 12 (by decide)]
    exact ⟨z4, z5, rfl, rfl, rfl, rfl⟩
