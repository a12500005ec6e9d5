-- brass
theorem bit_b {a i : Nat} (ha : a < 2147483648) (hi : i < 32) : band (bshr a i) 1 = ((a / 2 ^ i % 2 : Nat) : Int) := by
  rw [bshr_n hi ha]
  have e1 : (1 : Int) = ((1 : Nat) : Int) := rfl
  rw [e1, band_n (Nat.lt_of_le_of_lt (Nat.div_le_self _ _) ha) (by decide), Nat.and_one_is_mod]
def bcE (x : Int) : Int :=
  let a := x - band (bushr x 1) 1431655765
  let b := band a 858993459 + band (bushr a 2) 858993459
  let c := band (b + bushr b 4) 252645135
  let d := c + bushr c 8
  let e := d + bushr d 16
  band e 63
theorem bc_all : (List.range 1024).all (fun k => bcE k == ((bits5 (k / 32) + bits5 (k % 32) : Nat) : Int)) = true := by decide +kernel
theorem sp_bitCount {k : Nat} {h : aH} {Q : Int → Prop} (hk : k < 1024) (kk : Q ((bits5 (k / 32) + bits5 (k % 32) : Nat) : Int)) : wp_J6_bitCount_0f7a4 k h Q := by
  unfold wp_J6_bitCount_0f7a4
  have e : bcE k = ((bits5 (k / 32) + bits5 (k % 32) : Nat) : Int) := eq_of_beq (List.all_eq_true.mp bc_all k (List.mem_range.mpr hk))
  rintro _ rfl
  rintro _ rfl
  rintro _ rfl
  rintro _ rfl
  rintro _ rfl
  rw [← e] at kk
  exact kk
def ob5 (a b : Nat) : Int := 0 + band (bshr (bor a b) 0) 1 + band (bshr (bor a b) 1) 1 + band (bshr (bor a b) 2) 1 + band (bshr (bor a b) 3) 1 + band (bshr (bor a b) 4) 1
theorem ob_all : (List.range 32).all (fun a => (List.range 32).all (fun b => (!(a &&& b == 0)) || (ob5 a b == ((bits5 a + bits5 b : Nat) : Int)))) = true := by decide +kernel
theorem ob_e {a b : Nat} (ha : a < 32) (hb : b < 32) (hab : a &&& b = 0) : ob5 a b = ((bits5 a + bits5 b : Nat) : Int) := by
  have := List.all_eq_true.mp (List.all_eq_true.mp ob_all a (List.mem_range.mpr ha)) b (List.mem_range.mpr hb)
  simpa [hab] using this
theorem bits5_le (a : Nat) : bits5 a ≤ 5 := by unfold bits5; omega
theorem psum_s {p : Nat} {b : Int → Int} {a : Nat} : psum (p + 1) b a = psum p b a + if a / 2 ^ p % 2 = 1 then b (p : Int) else 0 := rfl
theorem psum_cong {b b' : Int → Int} {a : Nat} : ∀ {p : Nat}, (∀ i : Int, 0 ≤ i → i < p → b' i = b i) → psum p b' a = psum p b a
  | 0, _ => rfl
  | p + 1, h => by rw [psum_s, psum_s, psum_cong (p := p) (fun i i0 i1 => h i i0 (by omega)), h p (by omega) (by omega)]
theorem psum_bd {b : Int → Int} {a : Nat} : ∀ {p : Nat}, (∀ i : Int, 0 ≤ i → i < p → 1 ≤ b i ∧ b i ≤ 60) → 0 ≤ psum p b a ∧ psum p b a ≤ 60 * p
  | 0, _ => ⟨Int.le_refl _, Int.le_refl _⟩
  | p + 1, h => by
    have a1 := psum_bd (a := a) (p := p) (fun i i0 i1 => h i i0 (by omega))
    have a2 := h p (by omega) (by omega)
    rw [psum_s]
    split <;> omega
theorem spM_sumOf {p a : Nat} {h : aH} {Q : Int → Prop} (hp : p ≤ 5) (e : h 61 1 = p) (ha : a < 2147483648) (k : Q (psum p (h 65) a)) : wp_X9_sumOf a h Q := by
  unfold wp_X9_sumOf
  refine lp.rule (μ := fun y => (7 - y.2).toNat) (I := fun y => (0 ≤ y.2 ∧ y.2 ≤ (p : Int)) ∧ y.1 = psum y.2.toNat (h 65) a) ?_ (0, 0) ⟨⟨by omega, by dsimp only; omega⟩, rfl⟩
  rintro X ⟨s, t⟩ ⟨⟨t0, t1⟩, hs⟩ hX
  dsimp only at t0 t1 hs ⊢
  unfold wp_X9_sumOf_B4
  obtain ⟨u, rfl⟩ : ∃ u : Nat, t = (u : Int) := ⟨t.toNat, by omega⟩
  rw [show ((u : Nat) : Int).toNat = u by omega] at hs
  rw [e, bit_b ha (by omega)]
  refine ⟨inR_of (by omega) (by omega), inR_of (by omega) (by omega), fun q => ?_, fun q => ⟨⟨inR_of (by omega) (by omega), fun _ => ⟨⟨by omega, by omega⟩, trivial⟩, fun _ => trivial⟩, ?_⟩⟩
  · rw [hs, show u = p by omega]; exact k
  · rintro _ rfl
    refine hX _ ⟨⟨by dsimp only; omega, by dsimp only; omega⟩, ?_⟩ (by dsimp only; omega)
    dsimp only
    rw [show ((u : Int) + 1).toNat = u + 1 by omega, psum_s, hs]
    by_cases q2 : a / 2 ^ u % 2 = 1
    · rw [if_pos (by omega), if_pos q2]
    · rw [if_neg (by omega), if_neg q2]
theorem bst_s {pc : Nat} {b : Int → Int} {v : Int} {k : Nat} : bst pc b v (k + 1) = if wayOk pc b v k && (decide (bst pc b v k = -9) || decide (bits5 (k / 32) + bits5 (k % 32) < bits5 ((bst pc b v k).toNat / 32) + bits5 ((bst pc b v k).toNat % 32))) then (k : Int) else bst pc b v k := rfl
theorem bst_rng {pc : Nat} {b : Int → Int} {v : Int} : ∀ {k : Nat}, bst pc b v k = -9 ∨ (0 ≤ bst pc b v k ∧ bst pc b v k < k)
  | 0 => Or.inl rfl
  | k + 1 => by
    rw [bst_s]
    have := bst_rng (pc := pc) (b := b) (v := v) (k := k)
    split <;> omega
theorem bst_no {pc : Nat} {b : Int → Int} {v : Int} {k : Nat} (h : wayOk pc b v k = false) : bst pc b v (k + 1) = bst pc b v k := by
  rw [bst_s, h]; rfl
theorem bst_skip {pc : Nat} {b : Int → Int} {v : Int} {k : Nat} : ∀ {d : Nat}, (∀ j, j < d → wayOk pc b v (k + j) = false) → bst pc b v (k + d) = bst pc b v k
  | 0, _ => rfl
  | d + 1, h => by rw [show k + (d + 1) = k + d + 1 by omega, bst_no (h d (by omega))]; exact bst_skip (fun j hj => h j (by omega))
theorem wayOk_iff {pc : Nat} {b : Int → Int} {v : Int} {k : Nat} : wayOk pc b v k = true ↔ k / 32 < 2 ^ pc ∧ k % 32 < 2 ^ pc ∧ k / 32 &&& k % 32 = 0 ∧ psum pc b (k / 32) - psum pc b (k % 32) = v := by
  unfold wayOk
  rw [Bool.and_eq_true, Bool.and_eq_true, Bool.and_eq_true, decide_eq_true_iff, decide_eq_true_iff, decide_eq_true_iff, decide_eq_true_iff, and_assoc, and_assoc]
/-- where the reference is -/
def PCI (p : Nat) (b : Int → Int) (v : Int) (k : Nat) (x2 : Int) (g : aH) : Prop := (x2 = 1000000 ∧ bst p b v k = -9) ∨ (0 ≤ bst p b v k ∧ x2 = ((bits5 ((bst p b v k).toNat / 32) + bits5 ((bst p b v k).toNat % 32) : Nat) : Int) ∧ g 59 32 = (((bst p b v k).toNat / 32 : Nat) : Int) ∧ g 59 33 = (((bst p b v k).toNat % 32 : Nat) : Int))
def same59 (h g : aH) : Prop := (∀ k, k ≠ 59 → g k = h k) ∧ ∀ j : Int, ¬ j = 32 → ¬ j = 33 → g 59 j = h 59 j
theorem pow_le5 {p : Nat} (hp : p ≤ 5) : 2 ^ p ≤ 32 := by
  rcases (show p = 0 ∨ p = 1 ∨ p = 2 ∨ p = 3 ∨ p = 4 ∨ p = 5 by omega) with rfl | rfl | rfl | rfl | rfl | rfl <;> decide
theorem bshl_1 {p : Nat} (hp : p ≤ 5) : bshl 1 (p : Int) = ((2 ^ p : Nat) : Int) := by
  have := bshl_n (a := 1) (k := p) (by omega) (by have := pow_le5 hp; omega)
  rw [Nat.one_mul] at this
  exact this
theorem spM_bits {a b : Nat} {X20 : Int × Int × aH → Prop} {x2 : Int} {g : aH} (ha : a < 32) (hb : b < 32) (hab : a &&& b = 0) (h2 : inR x2) (kk : X20 (if x2 ≤ ((bits5 a + bits5 b : Nat) : Int) then x2 else ((bits5 a + bits5 b : Nat) : Int), (b : Int) + 1, up (up g 59 32 (if x2 ≤ ((bits5 a + bits5 b : Nat) : Int) then g 59 32 else a)) 59 33 (if x2 ≤ ((bits5 a + bits5 b : Nat) : Int) then g 59 33 else b))) : lp (fun X y => wp_X9_pieces_B62 a X20 x2 b g X y.1 y.2) (0, 0) := by
  have e := ob_e ha hb hab
  have l1 := bits5_le a
  have l2 := bits5_le b
  refine ⟨6, ?_⟩
  simp only [lpN]
  unfold wp_X9_pieces_B62 wp_X9_pieces_J138
  refine ⟨inR_of (by omega) (by omega), fun q => absurd q (by decide), fun _ => ?_⟩
  rintro _ rfl
  try dsimp only
  refine ⟨inR_of (by omega) (by omega), fun q => absurd q (by decide), fun _ => ?_⟩
  rintro _ rfl
  try dsimp only
  refine ⟨inR_of (by omega) (by omega), fun q => absurd q (by decide), fun _ => ?_⟩
  rintro _ rfl
  try dsimp only
  refine ⟨inR_of (by omega) (by omega), fun q => absurd q (by decide), fun _ => ?_⟩
  rintro _ rfl
  try dsimp only
  refine ⟨inR_of (by omega) (by omega), fun q => absurd q (by decide), fun _ => ?_⟩
  rintro _ rfl
  try dsimp only
  refine ⟨inR_of (by omega) (by omega), fun _ => ?_, fun q => absurd (show (5 : Int) ≤ 0 + 1 + 1 + 1 + 1 + 1 by decide) q⟩
  have e' : (0 + band (bshr (bor (a : Int) (b : Int)) 0) 1 + band (bshr (bor (a : Int) (b : Int)) (0 + 1)) 1 + band (bshr (bor (a : Int) (b : Int)) (0 + 1 + 1)) 1 + band (bshr (bor (a : Int) (b : Int)) (0 + 1 + 1 + 1)) 1 + band (bshr (bor (a : Int) (b : Int)) (0 + 1 + 1 + 1 + 1)) 1) = ((bits5 a + bits5 b : Nat) : Int) := e
  rw [e']
  have i5 : inR ((bits5 a + bits5 b : Nat) : Int) := inR_of (by omega) (by omega)
  refine ⟨⟨i5, h2, trivial⟩, ?_⟩
  rintro _ rfl
  rw [up_eq (j := 33), if_neg (show ¬ (33 : Int) = 32 by decide)]
  refine ⟨⟨i5, h2, trivial⟩, ?_⟩
  rintro _ rfl
  refine ⟨⟨i5, h2, trivial⟩, ?_⟩
  rintro _ rfl
  exact kk
theorem spM_pieces {p : Nat} {v : Int} {b : Int → Int} {h : aH} {Q : Int → aH → Prop} (hp : p ≤ 5) (e : h 61 1 = p) (hv' : 0 ≤ v ∧ v ≤ 300) (hb : ∀ i : Int, 0 ≤ i → i < p → h 65 i = b i ∧ 1 ≤ b i ∧ b i ≤ 60) (kk : ∀ x2 g, same59 h g → PCI p b v 1024 x2 g → Q x2 g) : wp_X9_pieces v h Q := by
  unfold wp_X9_pieces
  have p32 := pow_le5 hp
  have xb : ∀ {k : Nat} {x2 : Int} {g : aH}, PCI p b v k x2 g → inR x2 := fun {k x2 g} pi => by
    rcases pi with z | z
    · exact inR_of (by omega) (by omega)
    · have := bits5_le ((bst p b v k).toNat / 32)
      have := bits5_le ((bst p b v k).toNat % 32)
      exact inR_of (by omega) (by omega)
  refine lp.rule (μ := fun y => (33 - y.2.1).toNat) (I := fun y => (0 ≤ y.2.1 ∧ y.2.1 ≤ ((2 ^ p : Nat) : Int)) ∧ same59 h y.2.2 ∧ PCI p b v (32 * y.2.1.toNat) y.1 y.2.2) ?_ (1000000, 0, h) ⟨⟨by dsimp only; omega, Int.natCast_nonneg _⟩, ⟨fun _ _ => rfl, fun _ _ _ => rfl⟩, Or.inl ⟨rfl, rfl⟩⟩
  rintro X ⟨x2, t, g⟩ ⟨⟨t0, t1⟩, sg, pi⟩ hX
  dsimp only at t0 t1 sg pi ⊢
  unfold wp_X9_pieces_B5
  obtain ⟨a, rfl⟩ : ∃ a : Nat, t = (a : Int) := ⟨t.toNat, by omega⟩
  rw [show ((a : Nat) : Int).toNat = a by omega] at pi
  have e61 : g 61 1 = p := by rw [sg.1 61 (by decide), e]
  rw [e61, bshl_1 hp]
  refine ⟨inR_of (by omega) (by omega), inR_of (by omega) (by omega), fun q => kk x2 g sg ?_, fun q => ?_⟩
  · have ea : a = 2 ^ p := by omega
    have sk : bst p b v 1024 = bst p b v (32 * a) := by
      have := bst_skip (pc := p) (b := b) (v := v) (k := 32 * a) (d := 1024 - 32 * a) (fun j hj => by
        rw [← Bool.not_eq_true, wayOk_iff]
        intro z
        have := z.1
        omega)
      rw [show 32 * a + (1024 - 32 * a) = 1024 by omega] at this
      exact this
    unfold PCI
    rw [sk]
    exact pi
  · refine lp.rule (μ := fun y => (33 - y.2.1).toNat) (I := fun y => (0 ≤ y.2.1 ∧ y.2.1 ≤ ((2 ^ p : Nat) : Int)) ∧ same59 h y.2.2 ∧ PCI p b v (32 * a + y.2.1.toNat) y.1 y.2.2) ?_ (x2, 0, g) ⟨⟨by dsimp only; omega, by dsimp only; omega⟩, sg, pi⟩
    rintro X2 ⟨x2', t', g'⟩ ⟨⟨t0', t1'⟩, sg', pi'⟩ hX2
    dsimp only at t0' t1' sg' pi' ⊢
    unfold wp_X9_pieces_B20
    obtain ⟨d, rfl⟩ : ∃ d : Nat, t' = (d : Int) := ⟨t'.toNat, by omega⟩
    rw [show ((d : Nat) : Int).toNat = d by omega] at pi'
    have e61' : g' 61 1 = p := by rw [sg'.1 61 (by decide), e]
    rw [e61', bshl_1 hp]
    refine ⟨inR_of (by omega) (by omega), inR_of (by omega) (by omega), fun q2 => hX _ ⟨⟨by dsimp only; omega, by dsimp only; omega⟩, sg', ?_⟩ (by dsimp only; omega), fun q2 => ?_⟩
    · dsimp only
      have sk : bst p b v (32 * (a + 1)) = bst p b v (32 * a + d) := by
        have := bst_skip (pc := p) (b := b) (v := v) (k := 32 * a + d) (d := 32 - d) (fun j hj => by
          rw [← Bool.not_eq_true, wayOk_iff]
          intro z
          have := z.2.1
          omega)
        rw [show 32 * a + d + (32 - d) = 32 * (a + 1) by omega] at this
        exact this
      unfold PCI
      rw [show ((a : Int) + 1).toNat = a + 1 by omega, sk]
      exact pi'
    · have ea : (32 * a + d) / 32 = a := by omega
      have ed : (32 * a + d) % 32 = d := by omega
      have wk := wayOk_iff (pc := p) (b := b) (v := v) (k := 32 * a + d)
      rw [ea, ed] at wk
      have keep : wayOk p b v (32 * a + d) = false → X2 (x2', (d : Int) + 1, g') := fun wf => hX2 _ ⟨⟨by dsimp only; omega, by dsimp only; omega⟩, sg', by
        dsimp only
        unfold PCI
        rw [show ((d : Int) + 1).toNat = d + 1 by omega, show 32 * a + (d + 1) = 32 * a + d + 1 by omega, bst_no wf]
        exact pi'⟩ (by dsimp only; omega)
      have eps : ∀ m, psum p (g' 65) m = psum p b m := fun m => by
        rw [sg'.1 65 (by decide)]
        exact psum_cong (fun i i0 i1 => (hb i i0 i1).1)
      have pb1 := psum_bd (a := a) (p := p) (b := b) (fun i i0 i1 => (hb i i0 i1).2)
      have pb2 := psum_bd (a := d) (p := p) (b := b) (fun i i0 i1 => (hb i i0 i1).2)
      rw [band_n (by omega) (by omega)]
      have ale : a &&& d ≤ a := Nat.and_le_left
      unfold wp_X9_pieces_J138
      refine ⟨inR_of (by omega) (by omega), fun q3 => spM_sumOf hp e61' (by omega) (spM_sumOf hp e61' (by omega) ?_), fun q3 => keep ?_⟩
      · rw [eps, eps]
        have had : a &&& d = 0 := by omega
        refine ⟨inR_of (by omega) (by omega), inR_of (by omega) (by omega), fun q4 => spM_bits (by omega) (by omega) had (xb pi') (hX2 _ ⟨⟨by dsimp only; omega, by dsimp only; omega⟩, ⟨fun k hk => by dsimp only; rw [up_ne hk, up_ne hk]; exact sg'.1 k hk, fun j j1 j2 => by dsimp only; rw [up_eq, if_neg j2, up_eq, if_neg j1]; exact sg'.2 j j1 j2⟩, ?_⟩ (by dsimp only; omega)), fun q4 => keep ?_⟩
        · dsimp only
          have wt : wayOk p b v (32 * a + d) = true := wk.mpr ⟨by omega, by omega, had, q4⟩
          have l1 := bits5_le a
          have l2 := bits5_le d
          unfold PCI
          rw [show ((d : Int) + 1).toNat = d + 1 by omega, show 32 * a + (d + 1) = 32 * a + d + 1 by omega, bst_s, wt, ea, ed]
          rw [up_eq (j := 33), if_pos rfl, up_eq (j := 32), if_neg (show ¬ (32 : Int) = 33 by decide), up_eq (j := 32), if_pos rfl]
          rcases pi' with ⟨z1, z2⟩ | ⟨z1, z2, z3, z4⟩
          · rw [z2, z1]
            refine Or.inr ?_
            rw [if_pos (show (true && (decide ((-9 : Int) = -9) || decide (bits5 a + bits5 d < bits5 ((-9 : Int).toNat / 32) + bits5 ((-9 : Int).toNat % 32)))) = true from rfl), if_neg (show ¬ (1000000 : Int) ≤ ((bits5 a + bits5 d : Nat) : Int) by omega), if_neg (show ¬ (1000000 : Int) ≤ ((bits5 a + bits5 d : Nat) : Int) by omega), if_neg (show ¬ (1000000 : Int) ≤ ((bits5 a + bits5 d : Nat) : Int) by omega), show ((32 * a + d : Nat) : Int).toNat = 32 * a + d by omega, ea, ed]
            exact ⟨by omega, rfl, rfl, rfl⟩
          · by_cases q5 : bits5 a + bits5 d < bits5 ((bst p b v (32 * a + d)).toNat / 32) + bits5 ((bst p b v (32 * a + d)).toNat % 32)
            · refine Or.inr ?_
              have ng : ¬ x2' ≤ ((bits5 a + bits5 d : Nat) : Int) := by omega
              rw [if_pos (show (true && (decide (bst p b v (32 * a + d) = -9) || decide (bits5 a + bits5 d < bits5 ((bst p b v (32 * a + d)).toNat / 32) + bits5 ((bst p b v (32 * a + d)).toNat % 32)))) = true by simp [q5]), if_neg ng, if_neg ng, if_neg ng, show ((32 * a + d : Nat) : Int).toNat = 32 * a + d by omega, ea, ed]
              exact ⟨by omega, rfl, rfl, rfl⟩
            · refine Or.inr ?_
              have ng : x2' ≤ ((bits5 a + bits5 d : Nat) : Int) := by omega
              have n9 : ¬ bst p b v (32 * a + d) = -9 := by omega
              rw [if_neg (show ¬ (true && (decide (bst p b v (32 * a + d) = -9) || decide (bits5 a + bits5 d < bits5 ((bst p b v (32 * a + d)).toNat / 32) + bits5 ((bst p b v (32 * a + d)).toNat % 32)))) = true by simp [q5, n9]), if_pos ng, if_pos ng, if_pos ng]
              exact ⟨z1, z2, z3, z4⟩
        · rw [← Bool.not_eq_true, wk]
          intro z
          exact q4 z.2.2.2
      · rw [← Bool.not_eq_true, wk]
        intro z
        have := z.2.2.1
        omega
theorem S_brass {c x y : Int} {h : aH} {K : aH → Prop} (i : Inv c h) (hx : inR x) (hy : inR y) (hK : ∀ h', Inv (c + 1) h' → K h') : wp_X8_brass x y h (fun r => wp_X9_brass x y h (fun r2 h2 => inR r ∧ inR r2 ∧ ((r = r2 → K h2) ∧ (¬ r = r2 → False)))) := by
  obtain ⟨hn, hp, e1, e2, hw, hg, hb⟩ := i.2.1
  have id := i.2.2.2.2.2.2.2.2.2.1
  unfold wp_X8_brass
  have bad : ¬ ((0 ≤ x ∧ x ≤ 300) ∧ 0 ≤ y ∧ y ≤ 2) → wp_X9_brass x y h (fun r2 h2 => inR (-1) ∧ inR r2 ∧ ((-1 = r2 → K h2) ∧ (¬ -1 = r2 → False))) := by
    intro nq
    unfold wp_X9_brass
    rintro _ rfl
    exact sp_in2 hx inR0 (inR_of (by omega) (by omega)) (fun _ => fin_ok rfl (inR_of (by omega) (by omega)) (hK _ i.thr)) (fun a1 a2 => sp_in2 hy inR0 (inR_of (by omega) (by omega)) (fun _ => fin_ok rfl (inR_of (by omega) (by omega)) (hK _ i.thr)) (fun a b => by omega))
  refine sp_within2 hx inR0 (inR_of (by omega) (by omega)) (fun nq => bad (by omega)) (fun x0 x1 => sp_within2 hy inR0 (inR_of (by omega) (by omega)) (fun nq => bad (by omega)) (fun q1 q2 => ?_))
  have iv := id x x0 x1
  obtain ⟨p, ep⟩ : ∃ p : Nat, h 3 5 = (p : Int) := ⟨(h 3 5).toNat, by omega⟩
  rw [ep] at iv hb hp e2
  rw [show ((p : Nat) : Int).toNat = p by omega] at iv
  have rg := bst_rng (pc := p) (b := h 7) (v := x) (k := 1024)
  -- the reference
  have ref : ∀ r, ((r = -9 ∧ bst p (h 7) x 1024 = -9) ∨ (0 ≤ bst p (h 7) x 1024 ∧ r = if y = 0 then ((bits5 ((bst p (h 7) x 1024).toNat / 32) + bits5 ((bst p (h 7) x 1024).toNat % 32) : Nat) : Int) else if y = 1 then (((bst p (h 7) x 1024).toNat / 32 : Nat) : Int) else (((bst p (h 7) x 1024).toNat % 32 : Nat) : Int))) → wp_X9_brass x y h (fun r2 h2 => inR r ∧ inR r2 ∧ ((r = r2 → K h2) ∧ (¬ r = r2 → False))) := by
    intro r hr
    unfold wp_X9_brass
    rintro _ rfl
    refine sp_in2 hx inR0 (inR_of (by omega) (by omega)) (fun nq => absurd ⟨x0, x1⟩ nq) (fun _ _ => sp_in2 hy inR0 (inR_of (by omega) (by omega)) (fun nq => absurd ⟨q1, q2⟩ nq) (fun _ _ => ?_))
    refine spM_pieces (p := p) (b := h 7) (by omega) (by rw [up_ne (by decide)]; exact e2) (by omega) (by rw [up_ne (by decide)]; exact hb) (fun x2 g sg pi => ?_)
    have ig : Inv (c + 1) g := by
      refine i.fr (by omega) (fun k k1 _ _ _ _ _ _ _ _ => by rw [sg.1 k k1, up_ne k1]) (by rw [sg.1 1 (by decide), up_ne (by decide)]) ?_ ?_ ?_ ?_ ?_ <;> (rw [sg.2 _ (by decide) (by decide), thr59 (by decide)])
    have l1 := bits5_le ((bst p (h 7) x 1024).toNat / 32)
    have l2 := bits5_le ((bst p (h 7) x 1024).toNat % 32)
    have ix : inR x2 := by
      rcases pi with z | z
      · exact inR_of (by omega) (by omega)
      · exact inR_of (by omega) (by omega)
    refine ⟨⟨ix, fun _ => trivial, fun _ => ⟨hy, trivial⟩⟩, ?_⟩
    rcases pi with ⟨z1, z2⟩ | ⟨z1, z2, z3, z4⟩
    · rw [if_pos z1]
      exact fin_ok (by omega) (inR_of (by omega) (by omega)) (hK _ ig)
    · rw [if_neg (by omega), z3, z4]
      rcases hr with ⟨r1, r2⟩ | ⟨r1, r2⟩
      · omega
      · rw [← z2] at r2
        refine fin_ok r2 ?_ (hK _ ig)
        rw [r2]
        split
        · exact ix
        · split
          · exact inR_of (by omega) (by omega)
          · exact inR_of (by omega) (by omega)
  unfold wp_X0_canWeigh wp_X0_fewestPieces wp_X0_heavierPan wp_X0_otherPan
  rw [iv]
  refine ⟨⟨by omega, by omega⟩, ⟨inR_of (by omega) (by omega), trivial⟩, fun q3 => ref _ (Or.inl ⟨rfl, ?_⟩), fun q3 => ?_⟩
  · by_cases q4 : bst p (h 7) x 1024 = -9
    · exact q4
    · rw [if_neg q4] at q3; omega
  · have q4 : ¬ bst p (h 7) x 1024 = -9 := fun z => by rw [if_pos z] at q3; exact q3 rfl
    obtain ⟨m, em⟩ : ∃ m : Nat, bst p (h 7) x 1024 = (m : Int) := ⟨(bst p (h 7) x 1024).toNat, by omega⟩
    rw [em] at ref rg ⊢
    rw [show ((m : Nat) : Int).toNat = m by omega] at ref
    refine ⟨hy, fun q5 => ⟨⟨by omega, by omega⟩, sp_bitCount (by omega) (ref _ (Or.inr ⟨by omega, by rw [if_pos q5]⟩))⟩, fun q5 => ⟨fun q6 => ⟨⟨by omega, by omega⟩, ref _ (Or.inr ⟨by omega, ?_⟩)⟩, fun q6 => ⟨⟨by omega, by omega⟩, ref _ (Or.inr ⟨by omega, ?_⟩)⟩⟩⟩
    · rw [if_neg q5, if_pos q6]
      exact bshr_n (a := m) (k := 5) (by omega) (by omega)
    · rw [if_neg q5, if_neg q6]
      have := band_n (a := m) (b := 31) (by omega) (by omega)
      rw [show m &&& 31 = m % 32 from Nat.and_two_pow_sub_one_eq_mod m 5] at this
      exact this
