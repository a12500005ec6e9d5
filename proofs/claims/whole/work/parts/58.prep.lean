-- the class's table
theorem bshr3 {x : Int} (h : 0 ≤ x ∧ x < 32768) : bshr x 3 = x / 8 := by
  obtain ⟨a, rfl⟩ : ∃ a : Nat, x = (a : Int) := ⟨x.toNat, by omega⟩
  have := bshr_n (a := a) (k := 3) (by decide) (by omega)
  rw [show (3 : Int) = ((3 : Nat) : Int) from rfl, this]
  omega
theorem band7 {x : Int} (h : 0 ≤ x ∧ x < 32768) : band x 7 = x % 8 := by
  obtain ⟨a, rfl⟩ : ∃ a : Nat, x = (a : Int) := ⟨x.toNat, by omega⟩
  have := band_n (a := a) (b := 7) (by omega) (by decide)
  rw [show (7 : Int) = ((7 : Nat) : Int) from rfl, this, show a &&& 7 = a % 8 from Nat.and_two_pow_sub_one_eq_mod a 3]
  omega
theorem bpl {x y : Int} (hx : 0 ≤ x ∧ x ≤ 256) (hy : 0 ≤ y ∧ y ≤ 7) : bor (bshl x 3) y = 8 * x + y := by
  obtain ⟨a, rfl⟩ : ∃ a : Nat, x = (a : Int) := ⟨x.toNat, by omega⟩
  obtain ⟨b, rfl⟩ : ∃ b : Nat, y = (b : Int) := ⟨y.toNat, by omega⟩
  have e1 := bshl_n (a := a) (k := 3) (by decide) (by omega)
  rw [show (3 : Int) = ((3 : Nat) : Int) from rfl, e1, bor_n (by omega) (by omega)]
  have e2 := Nat.shiftLeft_add_eq_or_of_lt (b := b) (i := 3) (by omega) a
  rw [Nat.shiftLeft_eq] at e2
  rw [← e2]
  omega
def TR (x b : Int) : Prop := (x = 1 ∧ b = 0) ∨ (x = 2 ∧ b = 1) ∨ (x = 3 ∧ b = 3) ∨ (x = 4 ∧ b = 6)
theorem TR_lt {n x b y : Int} (hn : 0 ≤ n ∧ n ≤ 4) (tr : TR x b) (hx : x < n) (hy : 0 ≤ y ∧ y < x) : b + y < (pcn n : Int) := by
  unfold TR at tr
  rcases (show n = 0 ∨ n = 1 ∨ n = 2 ∨ n = 3 ∨ n = 4 by omega) with rfl | rfl | rfl | rfl | rfl
  · omega
  · omega
  · rw [pcn2]; omega
  · rw [pcn3]; omega
  · rw [pcn4]; omega
theorem TR_end {n x b : Int} (hn : 0 ≤ n ∧ n ≤ 4) (tr : TR x b) (hx : n ≤ x) (hy : x = 1 ∨ x ≤ n) : b = (pcn n : Int) := by
  unfold TR at tr
  rcases (show n = 0 ∨ n = 1 ∨ n = 2 ∨ n = 3 ∨ n = 4 by omega) with rfl | rfl | rfl | rfl | rfl
  · rw [pcn0]; omega
  · rw [pcn1]; omega
  · rw [pcn2]; omega
  · rw [pcn3]; omega
  · rw [pcn4]; omega
theorem TR_ul {x b : Int} {k y : Nat} (tr : TR x b) (hx : x ≤ 3) (hy : (y : Int) < x) (hk : (k : Int) = b + y) : (upC k : Int) = x ∧ loC k = y := by
  unfold TR at tr
  unfold upC loC
  rcases (show (x = 1 ∧ y = 0 ∧ k = 0) ∨ (x = 2 ∧ y = 0 ∧ k = 1) ∨ (x = 2 ∧ y = 1 ∧ k = 2) ∨ (x = 3 ∧ y = 0 ∧ k = 3) ∨ (x = 3 ∧ y = 1 ∧ k = 4) ∨ (x = 3 ∧ y = 2 ∧ k = 5) by omega) with ⟨rfl, rfl, rfl⟩ | ⟨rfl, rfl, rfl⟩ | ⟨rfl, rfl, rfl⟩ | ⟨rfl, rfl, rfl⟩ | ⟨rfl, rfl, rfl⟩ | ⟨rfl, rfl, rfl⟩ <;> exact ⟨rfl, rfl⟩
theorem TR_next {x b y : Int} (tr : TR x b) (hx : x ≤ 3) (hy : y = x) : TR (x + 1) (b + y) := by
  unfold TR at *
  omega
theorem hcN_s {P k j : Nat} : hcN P (k + 1) j = hcN P k j + (if fnd P k = 1 then (if j = upC k then 1 else 0) else if fnd P k = 2 then (if j = loC k then 1 else 0) else 0) := rfl
theorem sp_cntHv {P : Nat} {n : Int} {h : aH} {Q : aH → Prop} (hn : 0 ≤ n ∧ n ≤ 4) (e : h 43 2 = n) (hP : P < 4096) (kk : ∀ g, (∀ c, c ≠ 45 → g c = h c) → (∀ j : Nat, j < 4 → g 45 j = (hcN P (pcn n) j : Int)) → Q g) : wp_X5_countHeavierOnes P h Q := by
  unfold wp_X5_countHeavierOnes
  refine sp_fill (by decide) (fun h1 f1 f2 => ?_)
  refine lp.rule (μ := fun z => (5 - z.2.1).toNat) (I := fun z => TR z.2.1 z.1 ∧ (z.2.1 = 1 ∨ z.2.1 ≤ n) ∧ (∀ c, c ≠ 45 → z.2.2 c = h c) ∧ ∀ j : Nat, j < 4 → z.2.2 45 j = (hcN P z.1.toNat j : Int)) ?_ (0, 1, h1) ⟨Or.inl ⟨rfl, rfl⟩, Or.inl rfl, f1, fun j hj => f2 j (by omega) (by omega)⟩
  rintro X ⟨b, x, g⟩ ⟨tr, hx, g1, g2⟩ hX
  dsimp only at tr hx g1 g2 ⊢
  unfold wp_X5_countHeavierOnes_B12
  rw [g1 43 (by decide), e]
  have xb : 1 ≤ x ∧ x ≤ 4 ∧ 0 ≤ b ∧ b ≤ 6 := by unfold TR at tr; omega
  refine ⟨inR_of (by omega) (by omega), inR_of (by omega) (by omega), fun q => kk g g1 (fun j hj => ?_), fun q => ?_⟩
  · rw [g2 j hj, show b.toNat = pcn n by have := TR_end hn tr q hx; omega]
  refine lp.rule (μ := fun z => (5 - z.2.1).toNat) (I := fun z => (0 ≤ z.2.1 ∧ z.2.1 ≤ x) ∧ z.1 = b + z.2.1 ∧ (∀ c, c ≠ 45 → z.2.2 c = h c) ∧ ∀ j : Nat, j < 4 → z.2.2 45 j = (hcN P z.1.toNat j : Int)) ?_ (b, 0, g) ⟨⟨by dsimp only; omega, by dsimp only; omega⟩, by dsimp only; omega, g1, g2⟩
  rintro X2 ⟨k, y, g'⟩ ⟨⟨y0, y1⟩, ek, g1', g2'⟩ hX2
  dsimp only at y0 y1 ek g1' g2' ⊢
  unfold wp_X5_countHeavierOnes_B23 wp_X5_countHeavierOnes_J72 wp_X8_foundOf
  refine ⟨inR_of (by omega) (by omega), fun q2 => ?_, fun q2 => ?_⟩
  · have ey : y = x := by omega
    refine hX _ ⟨?_, Or.inr (by dsimp only; omega), g1', g2'⟩ (by dsimp only; omega)
    dsimp only
    rw [ek]
    exact TR_next tr (by omega) ey
  · obtain ⟨K, rfl⟩ : ∃ K : Nat, k = (K : Int) := ⟨k.toNat, by omega⟩
    obtain ⟨Y, rfl⟩ : ∃ Y : Nat, y = (Y : Int) := ⟨y.toNat, by omega⟩
    obtain ⟨u1, u2⟩ := TR_ul (k := K) (y := Y) tr (by omega) (by omega) ek
    rw [show ((K : Nat) : Int).toNat = K by omega] at g2'
    have K6 : K < 6 := by have := TR_lt hn tr (by omega) (y := Y) (by omega); have := pcn_le hn; omega
    rw [fnd_b (by omega) (by omega)]
    have fl := fnd_lt (P := P) (i := K)
    have e1 : ((K : Int) + 1).toNat = K + 1 := by omega
    refine ⟨inR_of (by omega) (by omega), fun z => ⟨⟨by omega, by omega⟩, ?_⟩, fun z => ⟨fun z2 => ⟨⟨by omega, by omega⟩, ?_⟩, fun z2 => ?_⟩⟩
    · rintro _ rfl
      refine hX2 _ ⟨⟨by dsimp only; omega, by dsimp only; omega⟩, by dsimp only; omega, fun c hc => by dsimp only; rw [up_ne hc, g1' c hc], fun j hj => ?_⟩ (by dsimp only; omega)
      dsimp only
      have es : hcN P (K + 1) j = hcN P K j + (if j = upC K then 1 else 0) := by rw [hcN_s, if_pos (show fnd P K = 1 by omega)]
      rw [up_eq, e1, es, ← u1, g2' _ (by omega)]
      by_cases w : j = upC K
      · rw [w, if_pos rfl, if_pos rfl]; rfl
      · rw [if_neg (by omega), if_neg w, g2' j hj]; rfl
    · rintro _ rfl
      refine hX2 _ ⟨⟨by dsimp only; omega, by dsimp only; omega⟩, by dsimp only; omega, fun c hc => by dsimp only; rw [up_ne hc, g1' c hc], fun j hj => ?_⟩ (by dsimp only; omega)
      dsimp only
      have es : hcN P (K + 1) j = hcN P K j + (if j = Y then 1 else 0) := by rw [hcN_s, if_neg (show ¬ fnd P K = 1 by omega), if_pos (show fnd P K = 2 by omega), u2]
      rw [up_eq, e1, es, g2' Y (by omega)]
      by_cases w : j = Y
      · rw [w, if_pos rfl, if_pos rfl]; rfl
      · rw [if_neg (by omega), if_neg w, g2' j hj]; rfl
    · refine hX2 _ ⟨⟨by dsimp only; omega, by dsimp only; omega⟩, by dsimp only; omega, g1', fun j hj => ?_⟩ (by dsimp only; omega)
      dsimp only
      rw [e1, hcN_s, if_neg (by omega), if_neg (by omega), g2' j hj]; rfl
theorem hcN_le {P j : Nat} : ∀ {k : Nat}, hcN P k j ≤ k
  | 0 => Nat.le_refl _
  | k + 1 => by
    have := hcN_le (P := P) (j := j) (k := k)
    rw [hcN_s]
    repeat' split
    all_goals omega
theorem isO_iff {m P : Nat} : isO m P = true ↔ ∀ k, k < m → fnd P k = due (hcN P m (loC k)) (hcN P m (upC k)) := by
  unfold isO
  rw [List.all_eq_true]
  constructor
  · intro h k hk
    have := h k (List.mem_range.mpr hk)
    exact of_decide_eq_true this
  · intro h k hk
    exact decide_eq_true (h k (List.mem_range.mp hk))
theorem sp_isOrder {P : Nat} {n : Int} {h : aH} {Q : Int → aH → Prop} (hn : 0 ≤ n ∧ n ≤ 4) (e : h 43 2 = n) (hP : P < 4096) (kk : ∀ g r, (∀ c, c ≠ 45 → g c = h c) → ((r = 1 ∧ isO (pcn n) P = true) ∨ (r = 0 ∧ isO (pcn n) P = false)) → Q r g) : wp_X5_isOrder P h Q := by
  unfold wp_X5_isOrder
  refine sp_cntHv hn e hP (fun g g1 g2 => ?_)
  have l6 := pcn_le hn
  refine lp.rule (μ := fun z => (5 - z.2).toNat) (I := fun z => TR z.2 z.1 ∧ (z.2 = 1 ∨ z.2 ≤ n) ∧ ∀ k : Nat, (k : Int) < z.1 → fnd P k = due (hcN P (pcn n) (loC k)) (hcN P (pcn n) (upC k))) ?_ (0, 1) ⟨Or.inl ⟨rfl, rfl⟩, Or.inl rfl, fun k hk => absurd hk (by dsimp only; omega)⟩
  rintro X ⟨b, x⟩ ⟨tr, hx, hI⟩ hX
  dsimp only at tr hx hI ⊢
  unfold wp_X5_isOrder_B9
  rw [g1 43 (by decide), e]
  have xb : 1 ≤ x ∧ x ≤ 4 ∧ 0 ≤ b ∧ b ≤ 6 := by unfold TR at tr; omega
  refine ⟨inR_of (by omega) (by omega), inR_of (by omega) (by omega), fun q => kk g 1 g1 (Or.inl ⟨rfl, ?_⟩), fun q => ?_⟩
  · have := TR_end hn tr q hx
    exact isO_iff.mpr (fun k hk => hI k (by omega))
  refine lp.rule (μ := fun z => (5 - z.2).toNat) (I := fun z => (0 ≤ z.2 ∧ z.2 ≤ x) ∧ z.1 = b + z.2 ∧ ∀ k : Nat, (k : Int) < z.1 → fnd P k = due (hcN P (pcn n) (loC k)) (hcN P (pcn n) (upC k))) ?_ (b, 0) ⟨⟨by dsimp only; omega, by dsimp only; omega⟩, by dsimp only; omega, hI⟩
  rintro X2 ⟨k, y⟩ ⟨⟨y0, y1⟩, ek, hI'⟩ hX2
  dsimp only at y0 y1 ek hI' ⊢
  unfold wp_X5_isOrder_B20 wp_X5_dueFinding wp_X8_foundOf
  refine ⟨inR_of (by omega) (by omega), fun q2 => ?_, fun q2 => ⟨⟨by omega, by omega⟩, ⟨by omega, by omega⟩, ?_⟩⟩
  · have ey : y = x := by omega
    refine hX _ ⟨?_, Or.inr (by dsimp only; omega), hI'⟩ (by dsimp only; omega)
    dsimp only
    rw [ek]
    exact TR_next tr (by omega) ey
  · obtain ⟨K, rfl⟩ : ∃ K : Nat, k = (K : Int) := ⟨k.toNat, by omega⟩
    obtain ⟨Y, rfl⟩ : ∃ Y : Nat, y = (Y : Int) := ⟨y.toNat, by omega⟩
    obtain ⟨u1, u2⟩ := TR_ul (k := K) (y := Y) tr (by omega) (by omega) ek
    have Km := TR_lt hn tr (by omega) (y := Y) (by omega)
    rw [fnd_b (by omega) (by omega), ← u1, g2 _ (by omega), g2 _ (by omega), ← u2]
    have fl := fnd_lt (P := P) (i := K)
    have c1 := hcN_le (P := P) (j := loC K) (k := pcn n)
    have c2 := hcN_le (P := P) (j := upC K) (k := pcn n)
    have F : ∀ r : Int, r = (due (hcN P (pcn n) (loC K)) (hcN P (pcn n) (upC K)) : Int) → (r = 1 ∨ r = 2 ∨ r = 3) → inR (fnd P K : Int) ∧ inR r ∧ (((fnd P K : Int) = r → X2 ((K : Int) + 1, ((loC K : Nat) : Int) + 1)) ∧ (¬ (fnd P K : Int) = r → Q 0 g)) := fun r hr hr2 => ⟨inR_of (by omega) (by omega), inR_of (by omega) (by omega), fun z => hX2 _ ⟨⟨by dsimp only; omega, by dsimp only; omega⟩, by dsimp only; omega, fun k hk => by
        dsimp only at hk
        by_cases w : k = K
        · rw [w]; omega
        · exact hI' k (by omega)⟩ (by dsimp only; omega), fun z => kk g 0 g1 (Or.inr ⟨rfl, by
          rw [← Bool.not_eq_true, isO_iff]
          intro y
          have := y K (by omega)
          omega⟩)⟩
    refine ⟨inR_of (by omega) (by omega), inR_of (by omega) (by omega), fun z => F 3 ?_ (by omega), fun z => F _ ?_ ?_⟩
    · unfold due; rw [if_pos (by omega)]; rfl
    · have ed : due (hcN P (pcn n) (loC K)) (hcN P (pcn n) (upC K)) = if hcN P (pcn n) (upC K) ≤ hcN P (pcn n) (loC K) then 2 else 1 := by unfold due; rw [if_neg (by omega)]
      rw [ed]
      by_cases w : hcN P (pcn n) (upC K) ≤ hcN P (pcn n) (loC K)
      · rw [if_pos w, if_pos (show (hcN P (pcn n) (upC K) : Int) ≤ (hcN P (pcn n) (loC K) : Int) by omega)]; rfl
      · rw [if_neg w, if_neg (show ¬ (hcN P (pcn n) (upC K) : Int) ≤ (hcN P (pcn n) (loC K) : Int) by omega)]; rfl
    · split <;> omega
/-- what stands in the table at P -/
def TB (n : Int) (f : Int → Int) (P : Nat) : Prop := (0 ≤ f P ∧ f P < 32768) ∧ f P / 8 = (MO n.toNat P : Int) ∧ f P % 8 ≤ (cntU (pcn n) P : Int) ∧ WR n.toNat P (fun P => f (P : Int) % 8)
theorem valid_up {n : Int} {i : Nat} (hn : 0 ≤ n ∧ n ≤ 4) (hi : i < 6) : i < pcn n ↔ up6 (ppi i) < n.toNat := by
  rcases (show n = 0 ∨ n = 1 ∨ n = 2 ∨ n = 3 ∨ n = 4 by omega) with rfl | rfl | rfl | rfl | rfl <;> exact six (p := fun i => i < pcn _ ↔ up6 (ppi i) < Int.toNat _) hi (by decide) (by decide) (by decide) (by decide) (by decide) (by decide)
theorem sp_left {n : Int} {P : Nat} {h : aH} {Q : Int → Prop} (hP : P < 4096) (t : TB n (h 44) P) (k : Q (MO n.toNat P : Int)) : wp_X5_ordersLeft P h Q := by
  unfold wp_X5_ordersLeft
  refine ⟨⟨by omega, by omega⟩, ?_⟩
  rw [bshr3 t.1, t.2.1]
  exact k
theorem sp_worstOf {P : Nat} {h : aH} {Q : Int → Prop} (hP : P < 4096) (t : 0 ≤ h 44 P ∧ h 44 P < 32768) (k : Q (h 44 P % 8)) : wp_X5_worstOf P h Q := by
  unfold wp_X5_worstOf
  refine ⟨⟨by omega, by omega⟩, ?_⟩
  rw [band7 t]
  exact k
theorem sp_countOrders {P : Nat} {n : Int} {h : aH} {Q : Int → aH → Prop} (hn : 0 ≤ n ∧ n ≤ 4) (e2 : h 43 2 = n) (e3 : h 43 3 = (pcn n : Int)) (hP : P < 4 ^ pcn n) (tb : ∀ P', P < P' → P' < 4 ^ pcn n → TB n (h 44) P') (kk : ∀ g, (∀ c, c ≠ 45 → g c = h c) → Q (MO n.toNat P : Int) g) : wp_X5_countOrders P h Q := by
  have l6 := pcn_le hn
  have l4 := pow_pcn hn
  unfold wp_X5_countOrders
  refine lp.rule (μ := fun z => (7 - z).toNat) (I := fun z => (0 ≤ z ∧ z ≤ (pcn n : Int)) ∧ ∀ i : Nat, (i : Int) < z → ¬ fnd P i = 0) ?_ 0 ⟨by omega, fun i hi => by omega⟩
  rintro X t ⟨t0, hI⟩ hX
  unfold wp_X5_countOrders_B2 wp_X8_foundOf wp_X8_withFound
  obtain ⟨i, rfl⟩ : ∃ i : Nat, t = (i : Int) := ⟨t.toNat, by omega⟩
  rw [e3]
  refine ⟨inR_of (by omega) (by omega), inR_of (by omega) (by omega), fun q => ?_, fun q => ?_⟩
  · refine sp_isOrder hn e2 (by omega) (fun g r g1 hr => ?_)
    have mk := MO_known (n := n.toNat) (P := P) (by omega) hP (fun j hj => hI j (by have : j < pcn n := hj; omega))
    have K := kk g g1
    rw [mk] at K
    have em : isO (n.toNat * (n.toNat - 1) / 2) P = isO (pcn n) P := rfl
    rw [em] at K
    rcases hr with ⟨r1, r2⟩ | ⟨r1, r2⟩
    · rw [r2] at K; rw [r1]; exact K
    · rw [r2] at K; rw [r1]; exact K
  · rw [fnd_b (by omega) (by omega)]
    have fl := fnd_lt (P := P) (i := i)
    refine ⟨inR_of (by omega) (by omega), fun z => ?_, fun z => hX _ ⟨by omega, fun j hj => ?_⟩ (by omega)⟩
    · have hf : fnd P i = 0 := by omega
      have e1 : bor (band (P : Int) (bxor (bshl 3 (2 * (i : Int))) (-1))) (bshl 1 (2 * (i : Int))) = (setF P i 1 : Int) := withF_b (v := 1) (by omega) (by omega) (by decide)
      have e2' : bor (band (P : Int) (bxor (bshl 3 (2 * (i : Int))) (-1))) (bshl 2 (2 * (i : Int))) = (setF P i 2 : Int) := withF_b (v := 2) (by omega) (by omega) (by decide)
      have e3' : bor (band (P : Int) (bxor (bshl 3 (2 * (i : Int))) (-1))) (bshl 3 (2 * (i : Int))) = (setF P i 3 : Int) := withF_b (v := 3) (by omega) (by omega) (by decide)
      have sl := fun v (hv' : 1 ≤ v ∧ v ≤ 3) => setF_lt (v := v) hn hP (i := i) (by omega) hv'.2
      have sg := fun v (hv' : 1 ≤ v ∧ v ≤ 3) => setF_gt (v := v) hf hv'.1
      have T := fun v hv' => tb (setF P i v) (sg v hv') (sl v hv')
      rintro _ rfl
      rw [e1]
      refine sp_left (by have := sl 1 (by omega); omega) (T 1 (by omega)) ?_
      rintro _ rfl
      rw [e2']
      refine sp_left (by have := sl 2 (by omega); omega) (T 2 (by omega)) ?_
      rintro _ rfl
      rw [e3']
      refine sp_left (by have := sl 3 (by omega); omega) (T 3 (by omega)) ?_
      have ms := MO_split (n := n.toNat) (P := P) (i := i) (by omega) (by omega) ((valid_up hn (by omega)).mp (by omega)) hf
      have K := kk h (fun _ _ => rfl)
      rw [ms] at K
      exact K
    · by_cases w : j = i
      · rw [w]; omega
      · exact hI j (by omega)
theorem sp_worstB {P i : Nat} {n : Int} {h : aH} {Q : Int → Prop} (hn : 0 ≤ n ∧ n ≤ 4) (hP : P < 4 ^ pcn n) (hu : unkI (pcn n) P i) (tb : ∀ P', P < P' → P' < 4 ^ pcn n → 0 ≤ h 44 P' ∧ h 44 P' < 32768) (kk : Q (mxW (fun P => h 44 (P : Int) % 8) P i)) : wp_X5_worstBehind P i h Q := by
  have l6 := pcn_le hn
  have l4 := pow_pcn hn
  have hi := hu.1
  have hf := hu.2
  have e1 : bor (band (P : Int) (bxor (bshl 3 (2 * (i : Int))) (-1))) (bshl 1 (2 * (i : Int))) = (setF P i 1 : Int) := withF_b (v := 1) (by omega) (by omega) (by decide)
  have e2' : bor (band (P : Int) (bxor (bshl 3 (2 * (i : Int))) (-1))) (bshl 2 (2 * (i : Int))) = (setF P i 2 : Int) := withF_b (v := 2) (by omega) (by omega) (by decide)
  have e3' : bor (band (P : Int) (bxor (bshl 3 (2 * (i : Int))) (-1))) (bshl 3 (2 * (i : Int))) = (setF P i 3 : Int) := withF_b (v := 3) (by omega) (by omega) (by decide)
  have sl := fun v (hv' : 1 ≤ v ∧ v ≤ 3) => setF_lt (v := v) hn hP (i := i) (by omega) hv'.2
  have sg := fun v (hv' : 1 ≤ v ∧ v ≤ 3) => setF_gt (v := v) hf hv'.1
  have T := fun v hv' => tb (setF P i v) (sg v hv') (sl v hv')
  have T1 := T 1 (by omega)
  have T2 := T 2 (by omega)
  have T3 := T 3 (by omega)
  unfold wp_X5_worstBehind wp_X8_withFound
  rintro _ rfl
  rw [e1]
  refine sp_worstOf (by have := sl 1 (by omega); omega) T1 ?_
  rintro _ rfl
  rw [e2']
  refine sp_worstOf (by have := sl 2 (by omega); omega) T2 ?_
  rintro _ rfl
  rw [e3']
  refine sp_worstOf (by have := sl 3 (by omega); omega) T3 ?_
  refine ⟨inR_of (by omega) (by omega), inR_of (by omega) (by omega), inR_of (by omega) (by omega), inR_of (by omega) (by omega), kk⟩
theorem sp_least {P : Nat} {n : Int} {h : aH} {Q : Int → Prop} (hn : 0 ≤ n ∧ n ≤ 4) (e3 : h 43 3 = (pcn n : Int)) (hP : P < 4 ^ pcn n) (tb : ∀ P', P < P' → P' < 4 ^ pcn n → 0 ≤ h 44 P' ∧ h 44 P' < 32768) (kk : ∀ r, (0 ≤ r ∧ r ≤ 7) → (r = 7 ∨ ∃ i, unkI (pcn n) P i ∧ r = mxW (fun P => h 44 (P : Int) % 8) P i) → (∀ i, unkI (pcn n) P i → r ≤ mxW (fun P => h 44 (P : Int) % 8) P i) → Q r) : wp_X5_leastBehind P h Q := by
  have l6 := pcn_le hn
  have l4 := pow_pcn hn
  unfold wp_X5_leastBehind
  refine lp.rule (μ := fun z => (7 - z.2).toNat) (I := fun z => (0 ≤ z.2 ∧ z.2 ≤ (pcn n : Int)) ∧ (0 ≤ z.1 ∧ z.1 ≤ 7) ∧ (z.1 = 7 ∨ ∃ i, unkI (pcn n) P i ∧ z.1 = mxW (fun P => h 44 (P : Int) % 8) P i) ∧ ∀ i : Nat, (i : Int) < z.2 → unkI (pcn n) P i → z.1 ≤ mxW (fun P => h 44 (P : Int) % 8) P i) ?_ (7, 0) ⟨⟨by dsimp only; omega, by dsimp only; omega⟩, ⟨by dsimp only; omega, by dsimp only; omega⟩, Or.inl rfl, fun i hi => by dsimp only at hi; omega⟩
  rintro X ⟨r, t⟩ ⟨t0, r0, hr, hI⟩ hX
  dsimp only at t0 r0 hr hI ⊢
  unfold wp_X5_leastBehind_B5 wp_X5_leastBehind_J32 wp_X8_foundOf
  obtain ⟨i, rfl⟩ : ∃ i : Nat, t = (i : Int) := ⟨t.toNat, by omega⟩
  rw [e3]
  refine ⟨inR_of (by omega) (by omega), inR_of (by omega) (by omega), fun q => kk r r0 hr (fun j hj => hI j (by have := hj.1; omega) hj), fun q => ?_⟩
  rw [fnd_b (by omega) (by omega)]
  have fl := fnd_lt (P := P) (i := i)
  refine ⟨inR_of (by omega) (by omega), fun z => ?_, fun z => hX _ ⟨by dsimp only; omega, r0, hr, fun j hj hu => ?_⟩ (by dsimp only; omega)⟩
  · have hu : unkI (pcn n) P i := ⟨by omega, by omega⟩
    refine sp_worstB hn hP hu tb ?_
    have mb : 0 ≤ mxW (fun P => h 44 (P : Int) % 8) P i ∧ mxW (fun P => h 44 (P : Int) % 8) P i ≤ 7 := by
      unfold mxW
      dsimp only
      omega
    refine ⟨inR_of (by omega) (by omega), inR_of (by omega) (by omega), ?_⟩
    rintro _ rfl
    refine hX _ ⟨by dsimp only; omega, by dsimp only; omega, ?_, fun j hj hu' => ?_⟩ (by dsimp only; omega)
    · dsimp only
      by_cases w : r ≤ mxW (fun P => h 44 (P : Int) % 8) P i
      · rw [show min r (mxW (fun P => h 44 (P : Int) % 8) P i) = r by omega]; exact hr
      · exact Or.inr ⟨i, hu, by omega⟩
    · dsimp only at hj ⊢
      by_cases w : j = i
      · rw [w]; omega
      · have := hI j (by omega) hu'; omega
  · dsimp only at hj ⊢
    by_cases w : j = i
    · rw [w] at hu; have := hu.2; omega
    · exact hI j (by omega) hu
theorem WR.cong {n P : Nat} {g g' : Nat → Int} (h : WR n P g) (e : ∀ P', P ≤ P' → g' P' = g P') : WR n P g' := by
  have m : ∀ i, unkI (n * (n - 1) / 2) P i → mxW g' P i = mxW g P i := fun i hu => by
    unfold mxW
    rw [e _ (Nat.le_of_lt (setF_gt hu.2 (by decide))), e _ (Nat.le_of_lt (setF_gt hu.2 (by decide))), e _ (Nat.le_of_lt (setF_gt hu.2 (by decide)))]
  refine ⟨fun q => by rw [e P (Nat.le_refl _)]; exact h.1 q, fun q => ?_⟩
  obtain ⟨⟨i, i1, i2⟩, a⟩ := h.2 q
  rw [e P (Nat.le_refl _)]
  exact ⟨⟨i, i1, by rw [m i i1]; exact i2⟩, fun j hj => by rw [m j hj]; exact a j hj⟩
theorem TB.cong {n : Int} {f f' : Int → Int} {P : Nat} (h : TB n f P) (e : ∀ P' : Nat, P ≤ P' → f' (P' : Int) = f P') : TB n f' P := by
  obtain ⟨h1, h2, h3, h4⟩ := h
  refine ⟨by rw [e P (Nat.le_refl _)]; exact h1, by rw [e P (Nat.le_refl _)]; exact h2, by rw [e P (Nat.le_refl _)]; exact h3, h4.cong (fun P' hp => ?_)⟩
  rw [e P' hp]
theorem b2m {m : Nat} (hm : m ≤ 6) : bshl 1 (2 * (m : Int)) = ((4 ^ m : Nat) : Int) := by
  have e : (2 * (m : Int)) = ((2 * m : Nat) : Int) := by omega
  have p : 4 ^ m ≤ 4 ^ 6 := Nat.pow_le_pow_right (by decide) hm
  have := bshl_n (a := 1) (k := 2 * m) (by omega) (by rw [← p4_2]; omega)
  rw [Nat.one_mul, ← p4_2] at this
  rw [e]
  exact this
theorem sp_prepare {n : Int} {h : aH} {Q : aH → Prop} (hn : 0 ≤ n ∧ n ≤ 4) (ic : ORDC (h 43 2) (h 43 3) (h 44)) (kk : ∀ g, (∀ c, c ≠ 43 → c ≠ 44 → c ≠ 45 → g c = h c) → g 43 2 = n → ORDC (g 43 2) (g 43 3) (g 44) → Q g) : wp_X5_prepare n h Q := by
  have l6 := pcn_le hn
  have l4 := pow_pcn hn
  have hb : inR (h 43 2) := by
    rcases ic with z | z
    · exact inR_of (by omega) (by omega)
    · exact inR_of (by omega) (by omega)
  unfold wp_X5_prepare
  refine ⟨hb, inR_of (by omega) (by omega), fun q => kk h (fun _ _ _ _ => rfl) q ic, fun q => ?_⟩
  rintro _ rfl
  have en : n * (n - 1) / 2 = (pcn n : Int) ∧ 0 ≤ n * (n - 1) ∧ n * (n - 1) < 2147483648 := by
    rcases (show n = 0 ∨ n = 1 ∨ n = 2 ∨ n = 3 ∨ n = 4 by omega) with rfl | rfl | rfl | rfl | rfl <;> decide
  refine ⟨en.2, ?_⟩
  rw [en.1]
  rintro _ rfl
  rw [up_eq, if_pos rfl, b2m l6]
  rintro _ rfl
  have p4 : 1 ≤ 4 ^ pcn n := Nat.one_le_pow _ _ (by decide)
  refine lp.rule (σ := Int × aH) (μ := fun z => (z.1 + 1).toNat) (I := fun z => (-1 ≤ z.1 ∧ z.1 < ((4 ^ pcn n : Nat) : Int)) ∧ (∀ c, c ≠ 43 → c ≠ 44 → c ≠ 45 → z.2 c = h c) ∧ z.2 43 2 = n ∧ z.2 43 3 = (pcn n : Int) ∧ ∀ P : Nat, z.1 < P → P < 4 ^ pcn n → TB n (z.2 44) P) ?_ (((4 ^ pcn n : Nat) : Int) - 1, up (up h 43 2 n) 43 3 (pcn n : Int)) ⟨⟨by dsimp only; omega, by dsimp only; omega⟩, fun c c1 c2 c3 => by dsimp only; rw [up_ne c1, up_ne c1], by dsimp only; rw [up_eq, if_neg (by decide), up_eq, if_pos rfl], by dsimp only; rw [up_eq, if_pos rfl], fun P z1 z2 => by dsimp only at z1; omega⟩
  rintro X ⟨t, g⟩ ⟨⟨t0, t1⟩, g1, g2, g3, tb⟩ hX
  dsimp only at t0 t1 g1 g2 g3 tb ⊢
  unfold wp_X5_prepare_B36
  refine ⟨inR_of (by omega) (by omega), fun z => ?_, fun z => ?_⟩
  · refine kk g g1 g2 (Or.inr ⟨by rw [g2]; omega, by rw [g2]; omega, by rw [g3, g2], fun P hP => ?_⟩)
    rw [g2] at hP ⊢
    obtain ⟨a1, a2, a3, a4⟩ := tb P (by omega) hP
    have c6 := cntU_le (m := pcn n) (P := P)
    exact ⟨a1, a2, by omega, a4⟩
  · obtain ⟨P, rfl⟩ : ∃ P : Nat, t = (P : Int) := ⟨t.toNat, by omega⟩
    have hP : P < 4 ^ pcn n := by omega
    refine sp_countOrders hn g2 g3 hP (fun P' p1 p2 => tb P' (by omega) p2) (fun g' g1' => ?_)
    have m256 := MO_le (n := n.toNat) (P := P)
    have e44 : g' 44 = g 44 := g1' 44 (by decide)
    have e43 : g' 43 = g 43 := g1' 43 (by decide)
    have J : ∀ w : Int, (0 ≤ w ∧ w ≤ 7) → w ≤ (cntU (pcn n) P : Int) → (∀ f' : Int → Int, (∀ P' : Nat, P' ≠ P → f' (P' : Int) = g 44 P') → f' P % 8 = w → WR n.toNat P (fun P => f' (P : Int) % 8)) → wp_X5_prepare_J62 X P (MO n.toNat P : Int) g' w := fun w hw hc hwr => by
      unfold wp_X5_prepare_J62
      rw [bpl (by omega) hw]
      refine ⟨⟨by omega, by omega⟩, ⟨by omega, by omega⟩, ?_⟩
      rintro _ rfl
      have o : ∀ P' : Nat, P' ≠ P → up g' 44 (P : Int) (8 * (MO n.toNat P : Int) + w) 44 (P' : Int) = g 44 P' := fun P' hp => by rw [up_eq, if_neg (by omega), e44]
      have o2 : up g' 44 (P : Int) (8 * (MO n.toNat P : Int) + w) 44 (P : Int) = 8 * (MO n.toNat P : Int) + w := by rw [up_eq, if_pos rfl]
      refine hX _ ⟨⟨by dsimp only; omega, by dsimp only; omega⟩, fun c c1 c2 c3 => by dsimp only; rw [up_ne c2, g1' c c3, g1 c c1 c2 c3], by dsimp only; rw [up_ne (by decide), e43, g2], by dsimp only; rw [up_ne (by decide), e43, g3], fun P' p1 p2 => ?_⟩ (by dsimp only; omega)
      dsimp only at p1 ⊢
      by_cases y : P' = P
      · rw [y]
        refine ⟨by rw [o2]; omega, by rw [o2]; omega, by rw [o2]; omega, hwr _ o (by rw [o2]; omega)⟩
      · exact (tb P' (by omega) p2).cong (fun P'' hp => o P'' (by omega))
    refine ⟨inR_of (by omega) (by omega), fun y => ?_, fun y => J 0 (by omega) (by omega) (fun f' h1 h2 => ⟨fun _ => h2, fun y2 => by omega⟩)⟩
    refine sp_least hn (by rw [e43]; exact g3) hP (fun P' p1 p2 => by rw [e44]; exact (tb P' (by omega) p2).1) (fun r r0 hr hle => ?_)
    rw [e44] at hr hle
    have mc : ∀ i, unkI (pcn n) P i → mxW (fun P => g 44 (P : Int) % 8) P i + 1 ≤ (cntU (pcn n) P : Int) := fun i hu => by
      have sl := fun v (hv' : 1 ≤ v ∧ v ≤ 3) => setF_lt (v := v) hn hP hu.1 hv'.2
      have sg := fun v (hv' : 1 ≤ v ∧ v ≤ 3) => setF_gt (v := v) hu.2 hv'.1
      have T := fun v hv' => (tb (setF P i v) (by have := sg v hv'; omega) (sl v hv')).2.2.1
      have C := fun v (hv' : 1 ≤ v ∧ v ≤ 3) => cntU_set (m := pcn n) (P := P) (i := i) (v := v) (by omega) (by have := hu.1; omega) hu hv'
      have T1 := T 1 (by omega)
      have T2 := T 2 (by omega)
      have T3 := T 3 (by omega)
      have C1 := C 1 (by omega)
      have C2 := C 2 (by omega)
      have C3 := C 3 (by omega)
      unfold mxW
      dsimp only
      omega
    have ex : ∃ i, unkI (pcn n) P i := by
      refine Classical.byContradiction (fun no => ?_)
      have := MO_known (n := n.toNat) (P := P) (by omega) hP (fun j hj z2 => no ⟨j, hj, z2⟩)
      split at this <;> omega
    obtain ⟨i0, hi0⟩ := ex
    have b0 := mc i0 hi0
    have b1 := hle i0 hi0
    have c6 := cntU_le (m := pcn n) (P := P)
    refine J (1 + r) (by omega) (by omega) (fun f' h1 h2 => ⟨fun y2 => by omega, fun _ => ?_⟩)
    have m : ∀ i, unkI (pcn n) P i → mxW (fun P => f' (P : Int) % 8) P i = mxW (fun P => g 44 (P : Int) % 8) P i := fun i hu => by
      have sg := fun v (hv' : 1 ≤ v ∧ v ≤ 3) => setF_gt (v := v) hu.2 hv'.1
      unfold mxW
      dsimp only
      rw [h1 _ (by have := sg 1 (by omega); omega), h1 _ (by have := sg 2 (by omega); omega), h1 _ (by have := sg 3 (by omega); omega)]
    dsimp only
    rw [h2]
    refine ⟨?_, fun i hi => ?_⟩
    · rcases hr with hr | ⟨i, hi, hr⟩
      · omega
      · exact ⟨i, hi, by rw [m i hi, hr]⟩
    · rw [m i hi]
      have := hle i hi
      omega
