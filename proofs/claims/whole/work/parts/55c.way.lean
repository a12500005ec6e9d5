theorem dgl1 {k : Nat} {f a : Int} (h : ((k / 1000 : Nat) : Int) ≤ f) (q : f < a) : (k : Int) < 1000 * a := by omega
theorem dgl2 {k : Nat} {a b : Int} (h0 : 1000 * a + 100 * b ≤ k) (h1 : (k : Int) < 1000 * (a + 1)) (hb : 0 ≤ b) : b ≤ ((k / 100 % 10 : Nat) : Int) := by omega
theorem dgl3 {k : Nat} {a b c : Int} (h0 : 1000 * a + 100 * b + 10 * c ≤ k) (h1 : (k : Int) < 1000 * a + 100 * (b + 1)) (hc : 0 ≤ c) : c ≤ ((k / 10 % 10 : Nat) : Int) := by omega
theorem dgl4 {k : Nat} {a b c : Int} (hb : 0 ≤ b ∧ b ≤ 9) (hc : 0 ≤ c ∧ c ≤ 9) (h0 : 1000 * a + 100 * b + 10 * c ≤ k) (h1 : (k : Int) < 1000 * a + 100 * b + 10 * c + 10) : ((k / 1000 : Nat) : Int) = a ∧ ((k / 100 % 10 : Nat) : Int) = b ∧ ((k / 10 % 10 : Nat) : Int) = c ∧ ((k % 10 : Nat) : Int) = k - (1000 * a + 100 * b + 10 * c) := by
  have z : ((k / 1000 : Nat) : Int) = a := by omega
  have y : ((k / 100 : Nat) : Int) = 10 * a + b := by omega
  have x : ((k / 10 : Nat) : Int) = 100 * a + 10 * b + c := by omega
  refine ⟨z, ?_, ?_, by omega⟩
  · generalize k / 100 = t at *; clear z x h0 h1; omega
  · generalize k / 10 = t at *; clear z y h0 h1; omega
theorem sp_firstWay {p v n : Int} {h : aH} {Q : Int → Prop} (hp : 0 ≤ p ∧ p < 4) (hv' : 0 ≤ v ∧ v ≤ 720) (hn : 0 ≤ n ∧ n ≤ 36) (hw : ∀ j, 0 ≤ j → j < 4 → 1 ≤ h 4 j ∧ h 4 j ≤ 20) (hf : ∀ j, 0 ≤ j → j < 16 → 0 ≤ h 14 j ∧ h 14 j ≤ 9) (hex : RR (h 4) (hdC (h 14) p) v n) (kk : ∀ k : Nat, FST (h 4) (h 14) p v n k → Q k) : wp_X3_firstWay p v n h Q := by
  unfold wp_X3_firstWay
  rintro _ rfl
  obtain ⟨k0, z1, z2⟩ := RR_to hp hf hex
  rw [show p * 4 = 4 * p by omega]
  have f0 := hf (4 * p) (by omega) (by omega)
  have f1 := hf (4 * p + 1) (by omega) (by omega)
  have f2 := hf (4 * p + 2) (by omega) (by omega)
  have f3 := hf (4 * p + 3) (by omega) (by omega)
  have w0 := hw 0 (by omega) (by omega)
  have w1 := hw 1 (by omega) (by omega)
  have w2 := hw 2 (by omega) (by omega)
  have w3 := hw 3 (by omega) (by omega)
  refine lp.rule (μ := fun z => (11 - z).toNat) (I := fun z => (0 ≤ z ∧ z ≤ h 14 (4 * p) + 1) ∧ ∀ k : Nat, (k : Int) < 1000 * z → ¬ OKK (h 4) (h 14) p v n k) ?_ 0 ⟨⟨by omega, by omega⟩, fun k hk => by omega⟩
  rintro X a ⟨⟨a0, a1⟩, ha⟩ hX
  unfold wp_X3_firstWay_B8
  refine ⟨⟨by omega, by omega⟩, inR_of (by omega) (by omega), inR_of (by omega) (by omega), fun q => ?_, fun q => ?_⟩
  · exact absurd z2 (ha k0 (dgl1 z2.1.1 (by omega)))
  refine lp.rule (μ := fun z => (11 - z).toNat) (I := fun z => (0 ≤ z ∧ z ≤ h 14 (4 * p + 1) + 1) ∧ ∀ k : Nat, (k : Int) < 1000 * a + 100 * z → ¬ OKK (h 4) (h 14) p v n k) ?_ 0 ⟨⟨by omega, by omega⟩, fun k hk => ha k (by omega)⟩
  rintro X2 b ⟨⟨b0, b1⟩, hb⟩ hX2
  unfold wp_X3_firstWay_B20
  refine ⟨⟨by omega, by omega⟩, inR_of (by omega) (by omega), inR_of (by omega) (by omega), fun q2 => ?_, fun q2 => ?_⟩
  · refine hX _ ⟨⟨by omega, by omega⟩, fun k hk => ?_⟩ (by omega)
    by_cases z : (k : Int) < 1000 * a + 100 * b
    · exact hb k z
    · intro o
      have o1 := o.1.2.1
      have o2 := dgl2 (k := k) (a := a) (b := b) (by omega) hk (by omega)
      generalize ((k / 100 % 10 : Nat) : Int) = t at o1 o2
      omega
  refine lp.rule (μ := fun z => (11 - z).toNat) (I := fun z => (0 ≤ z ∧ z ≤ h 14 (4 * p + 2) + 1) ∧ ∀ k : Nat, (k : Int) < 1000 * a + 100 * b + 10 * z → ¬ OKK (h 4) (h 14) p v n k) ?_ 0 ⟨⟨by omega, by omega⟩, fun k hk => hb k (by omega)⟩
  rintro X3 c ⟨⟨c0, c1⟩, hc⟩ hX3
  unfold wp_X3_firstWay_B34 wp_X3_firstWay_J130
  refine ⟨⟨by omega, by omega⟩, inR_of (by omega) (by omega), inR_of (by omega) (by omega), fun q3 => ?_, fun q3 => ?_⟩
  · refine hX2 _ ⟨⟨by omega, by omega⟩, fun k hk => ?_⟩ (by omega)
    by_cases z : (k : Int) < 1000 * a + 100 * b + 10 * c
    · exact hc k z
    · intro o
      have o1 := o.1.2.2.1
      have o2 := dgl3 (k := k) (a := a) (b := b) (c := c) (by omega) hk (by omega)
      generalize ((k / 10 % 10 : Nat) : Int) = t at o1 o2
      omega
  rintro _ rfl
  rintro _ rfl
  have m0 := mul_bd (a := a) (b := h 4 0) (A := 9) (B := 20) (by omega) (by omega) (by omega) (by omega)
  have m1 := mul_bd (a := b) (b := h 4 1) (A := 9) (B := 20) (by omega) (by omega) (by omega) (by omega)
  have m2 := mul_bd (a := c) (b := h 4 2) (A := 9) (B := 20) (by omega) (by omega) (by omega) (by omega)
  have m3 := mul_bd (a := (n - a - b - c) + 40) (b := h 4 3) (A := 100) (B := 20) (by omega) (by omega) (by omega) (by omega)
  rw [Int.add_mul] at m3
  have nx : (¬ (a * h 4 0 + b * h 4 1 + c * h 4 2 + (n - a - b - c) * h 4 3 = v ∧ 0 ≤ n - a - b - c ∧ n - a - b - c ≤ h 14 (4 * p + 3))) → X3 (c + 1) := fun no => by
    refine hX3 _ ⟨⟨by omega, by omega⟩, fun k hk => ?_⟩ (by omega)
    by_cases z : (k : Int) < 1000 * a + 100 * b + 10 * c
    · exact hc k z
    · intro o
      obtain ⟨o1, o2, o3⟩ := o
      have o4 := o1.2.2.2
      obtain ⟨d1, d2, d3, d4⟩ := dgl4 (k := k) (a := a) (b := b) (c := c) (by omega) (by omega) (by omega) (by omega)
      have d5 : 0 ≤ ((k % 10 : Nat) : Int) := Int.natCast_nonneg _
      rw [cnk_alt, d1, d2, d3] at o3
      rw [wof_alt, d1, d2, d3] at o2
      generalize ((k % 10 : Nat) : Int) = t at o2 o3 o4 d4 d5
      have et : t = n - a - b - c := by clear m0 m1 m2 m3 o2; omega
      rw [et] at o2 o4 d5
      exact no ⟨o2, d5, o4⟩
  refine ⟨inR_of (by omega) (by omega), inR_of (by omega) (by omega), fun q4 => ⟨⟨by omega, by omega⟩, sp_within2 (inR_of (by omega) (by omega)) inR0 (inR_of (by omega) (by omega)) (fun q5 => nx (fun z => q5 z.2)) (fun d0 d1 => ?_)⟩, fun q4 => nx (fun z => q4 z.1)⟩
  clear m0 m1 m2 m3 nx
  generalize ed : n - a - b - c = d at *
  have eK : (a * 1000 + b * 100 + c * 10 + d) = (((1000 * a + 100 * b + 10 * c + d).toNat : Nat) : Int) := by omega
  rw [eK]
  obtain ⟨y0, y1, y2, y3⟩ := dig4 (a := a) (b := b) (c := c) (d := d) (by omega) (by omega) (by omega) (by omega)
  refine kk _ ⟨by omega, ⟨⟨by rw [y0]; omega, by rw [y1]; omega, by rw [y2]; omega, by rw [y3]; omega⟩, ?_, ?_⟩, fun k' hk' => ?_⟩
  · rw [wof_dig (by omega) (by omega) (by omega) (by omega)]; exact q4
  · rw [cnk_alt, y0, y1, y2, y3]; omega
  · by_cases z : (k' : Int) < 1000 * a + 100 * b + 10 * c
    · exact hc k' z
    · intro o
      have o3 := o.2.2
      have hk2 : (k' : Int) < 1000 * a + 100 * b + 10 * c + d := by omega
      obtain ⟨d1', d2', d3', d4'⟩ := dgl4 (k := k') (a := a) (b := b) (c := c) (by omega) (by omega) (by omega) (by omega)
      rw [cnk_alt, d1', d2', d3', d4'] at o3
      omega
/-- the figures of a way -/
def dgt (k j : Int) : Int := if j = 0 then k / 1000 else if j = 1 then k / 100 % 10 else if j = 2 then k / 10 % 10 else k % 10
theorem sp_figureOf {k j : Int} {h : aH} {Q : Int → Prop} (hk : 0 ≤ k ∧ k < 10000) (hj : 0 ≤ j ∧ j < 4) (kk : Q (dgt k j)) : wp_X3_figureOf k j h Q := by
  unfold wp_X3_figureOf
  refine lp.rule (μ := fun z => (z.2 + 1).toNat) (I := fun z => (j ≤ z.2 ∧ z.2 ≤ 3) ∧ ((z.2 = 3 ∧ z.1 = k) ∨ (z.2 = 2 ∧ z.1 = k / 10) ∨ (z.2 = 1 ∧ z.1 = k / 100) ∨ (z.2 = 0 ∧ z.1 = k / 1000))) ?_ (k, 3) ⟨⟨by dsimp only; omega, by dsimp only; omega⟩, Or.inl ⟨rfl, rfl⟩⟩
  rintro X ⟨s, t⟩ ⟨⟨t0, t1⟩, hs⟩ hX
  dsimp only at t0 t1 hs ⊢
  unfold wp_X3_figureOf_B4
  refine ⟨inR_of (by omega) (by omega), inR_of (by omega) (by omega), fun q => ⟨⟨by omega, by omega⟩, ?_⟩, fun q => ⟨⟨by omega, by omega⟩, ?_⟩⟩
  · unfold dgt at kk
    rcases hs with z | z | z | z
    · rw [if_neg (by omega), if_neg (by omega), if_neg (by omega)] at kk; rw [z.2]; exact kk
    · rw [if_neg (by omega), if_neg (by omega), if_pos (by omega)] at kk; rw [z.2]; exact kk
    · rw [if_neg (by omega), if_pos (by omega)] at kk; rw [z.2]; exact kk
    · rw [if_pos (by omega)] at kk; rw [z.2, show k / 1000 % 10 = k / 1000 by omega]; exact kk
  · rintro _ rfl
    refine hX _ ⟨⟨by dsimp only; omega, by dsimp only; omega⟩, by dsimp only; omega⟩ (by dsimp only; omega)
