-- now
theorem spM_codeNow {P : Nat} {h : aH} {Q : Int → Prop} (hd : ∀ i : Nat, i < 6 → h 66 (17 + (ppi i : Int)) = cmc (fnd P i)) (kk : Q (mcode P : Int)) : wp_X9_codeNow h Q := by
  unfold wp_X9_codeNow
  refine lp.rule (μ := fun z => (7 - z.2).toNat) (I := fun z => (0 ≤ z.2 ∧ z.2 ≤ 6) ∧ ∃ m : Nat, z.1 = (m : Int) ∧ m < 4096 ∧ ∀ j, j < 6 → fnd m j = if (j : Int) < z.2 then fnd (mcode P) j else 0) ?_ (0, 0) ⟨⟨by dsimp only; omega, by dsimp only; omega⟩, 0, rfl, by decide, fun j hj => by dsimp only; rw [if_neg (by omega)]; exact fnd_0⟩
  rintro X ⟨r, t⟩ ⟨t0, m, hm, ml, md⟩ hX
  dsimp only at t0 hm md ⊢
  obtain ⟨k, rfl⟩ : ∃ k : Nat, t = (k : Int) := ⟨t.toNat, by omega⟩
  subst hm
  unfold wp_X9_codeNow_B4
  refine ⟨inR_of (by omega) (by omega), fun q => ?_, fun q => ⟨⟨by omega, by omega⟩, ?_⟩⟩
  · have e : m = mcode P := fnd_ext ml mcode_lt (fun j hj => by rw [md j hj, if_pos (by omega)])
    rw [e]; exact kk
  · have k6 : k < 6 := by omega
    have dk := hd (ppi k) (ppi_lt k6)
    rw [ppi_ppi] at dk
    have ck : cmc (fnd P (ppi k)) = (fnd (mcode P) k : Int) := by
      rw [fnd_mcode k6]
      unfold cmT
      have : 0 ≤ cmc (fnd P (ppi k)) := by unfold cmc; repeat' split
                                           all_goals omega
      omega
    rw [dk, ck]
    have fl := fnd_lt (P := mcode P) (i := k)
    have p : 4 ^ k ≤ 4 ^ 5 := Nat.pow_le_pow_right (by decide) (by omega)
    have mb := Nat.mul_le_mul (show fnd (mcode P) k ≤ 3 by omega) p
    rw [show (2 * (k : Int)) = ((2 * k : Nat) : Int) by omega, bshl_n (by omega) (by rw [← p4_2]; omega), ← p4_2, bor_n (by omega) (by omega)]
    rintro _ rfl
    refine hX _ ⟨by dsimp only; omega, _, rfl, Nat.or_lt_two_pow (n := 12) ml (by omega), fun j hj => ?_⟩ (by dsimp only; omega)
    dsimp only
    rw [fnd_or, md j hj, fnd_sh fl k6 hj]
    by_cases z : j = k
    · rw [if_neg (by omega), if_pos z, if_pos (by omega), z, Nat.zero_or]
    · rw [if_neg z, Nat.or_zero]
      by_cases z2 : (j : Int) < (k : Int)
      · rw [if_pos z2, if_pos (by omega)]
      · rw [if_neg z2, if_neg (by omega)]
/-- the pair j is one to be weighed next -/
def good (n P : Nat) (g : Nat → Int) (j : Nat) : Prop := up6 j < n ∧ fnd P (ppi j) = 0 ∧ 1 + mxW g P (ppi j) = g P
def NP (n P : Nat) (g : Nat → Int) (r : Int) : Prop := (g P = 0 ∧ r = -9) ∨ (0 < g P ∧ ∃ j, j < 6 ∧ good n P g j ∧ (∀ j', j' < j → ¬ good n P g j') ∧ r = 10 * (lo6 j : Int) + (up6 j : Int))
theorem NP.uniq {n P : Nat} {g : Nat → Int} {r r' : Int} (a : NP n P g r) (b : NP n P g r') : r = r' := by
  rcases a with a | ⟨a, j, j1, j2, j3, j4⟩ <;> rcases b with b | ⟨b, i, i1, i2, i3, i4⟩
  · omega
  · omega
  · omega
  · have e : j = i := by
      rcases Nat.lt_trichotomy j i with z | z | z
      · exact absurd j2 (i3 j z)
      · exact z
      · exact absurd i2 (j3 i z)
    rw [j4, i4, e]
theorem NP.bd {n P : Nat} {g : Nat → Int} {r : Int} (a : NP n P g r) : inR r := by
  rcases a with a | ⟨a, j, j1, j2, j3, j4⟩
  · exact inR_of (by omega) (by omega)
  · have := up6_le j1
    exact inR_of (by omega) (by omega)
theorem lx_all : ∀ a : Fin 6, ∀ b : Fin 6, (a.val < b.val → (lo6 a.val < lo6 b.val ∨ (lo6 a.val = lo6 b.val ∧ up6 a.val < up6 b.val))) ∧ (lo6 a.val = lo6 b.val → up6 a.val = up6 b.val → a.val = b.val) := by decide
theorem lx_pr {a b : Int} (ha : 0 ≤ a) (hab : a < b) (hb : b < 4) : prI a b < 6 ∧ (lo6 (ppi (prI a b)) : Int) = a ∧ (up6 (ppi (prI a b)) : Int) = b := by
  rcases (show (a = 0 ∧ b = 1) ∨ (a = 0 ∧ b = 2) ∨ (a = 0 ∧ b = 3) ∨ (a = 1 ∧ b = 2) ∨ (a = 1 ∧ b = 3) ∨ (a = 2 ∧ b = 3) by omega) with ⟨rfl, rfl⟩ | ⟨rfl, rfl⟩ | ⟨rfl, rfl⟩ | ⟨rfl, rfl⟩ | ⟨rfl, rfl⟩ | ⟨rfl, rfl⟩ <;> decide
/-- what of the class's table is used -/
def TBC (n : Int) (f : Int → Int) : Prop := ∀ P : Nat, P < 4 ^ pcn n → (0 ≤ f P ∧ f P < 32768) ∧ f P / 8 = (MO n.toNat P : Int) ∧ f P % 8 ≤ 6 ∧ WR n.toNat P (fun P => f (P : Int) % 8)
theorem WR.ex {n : Int} {P : Nat} {g : Nat → Int} (hn : 0 ≤ n ∧ n ≤ 4) (w : WR n.toNat P g) (hg : ¬ g P = 0) : (∃ j, j < 6 ∧ good n.toNat P g j) ∧ ∀ i, unkI (pcn n) P i → g P ≤ 1 + mxW g P i := by
  have l6 := pcn_le hn
  by_cases q : MO n.toNat P ≤ 1
  · exact absurd (w.1 q) hg
  · obtain ⟨⟨i, i1, i2⟩, a⟩ := w.2 (by omega)
    have i6 : i < 6 := by have : i < pcn n := i1.1; omega
    refine ⟨⟨ppi i, ppi_lt i6, (valid_up hn i6).mp i1.1, by rw [ppi_ppi]; exact i1.2, by rw [ppi_ppi]; exact i2.symm⟩, a⟩
theorem sp_nextPair {n : Int} {P : Nat} {h : aH} {Q : Int → Prop} (hn : 0 ≤ n ∧ n ≤ 4) (e2 : h 43 2 = n) (hP : P < 4 ^ pcn n) (tc : TBC n (h 44)) (kk : ∀ r, NP n.toNat P (fun P => h 44 (P : Int) % 8) r → Q r) : wp_X5_nextPair P h Q := by
  have l6 := pcn_le hn
  have l4 := pow_pcn hn
  obtain ⟨t1, t2, t3, t4⟩ := tc P hP
  unfold wp_X5_nextPair
  refine sp_worstOf (by omega) t1 ⟨inR_of (by omega) (by omega), fun q => kk _ (Or.inl ⟨q, rfl⟩), fun q => ?_⟩
  have ex := t4.ex hn q
  refine lp.rule (μ := fun z => (5 - z).toNat) (I := fun z => (0 ≤ z ∧ z ≤ 4) ∧ ∀ j, j < 6 → (lo6 j : Int) < z → ¬ good n.toNat P (fun P => h 44 (P : Int) % 8) j) ?_ 0 ⟨by omega, fun j hj hl => by omega⟩
  rintro X a ⟨a0, hI⟩ hX
  unfold wp_X5_nextPair_B15
  rw [e2]
  refine ⟨inR_of (by omega) (by omega), inR_of (by omega) (by omega), fun q2 => ?_, fun q2 => ?_⟩
  · obtain ⟨j, j1, j2⟩ := ex.1
    have u := up6_le j1
    have := j2.1
    exact absurd j2 (hI j j1 (by omega))
  · rintro _ rfl
    refine lp.rule (μ := fun z => (5 - z).toNat) (I := fun z => (a + 1 ≤ z ∧ z ≤ n) ∧ ∀ j, j < 6 → ((lo6 j : Int) < a ∨ ((lo6 j : Int) = a ∧ (up6 j : Int) < z)) → ¬ good n.toNat P (fun P => h 44 (P : Int) % 8) j) ?_ (a + 1) ⟨by omega, fun j hj hl => ?_⟩
    · rintro X2 b ⟨b0, hI2⟩ hX2
      unfold wp_X5_nextPair_B28 wp_X5_nextPair_J75
      rw [e2]
      refine ⟨inR_of (by omega) (by omega), fun q3 => hX _ ⟨by omega, fun j hj hl hg => ?_⟩ (by omega), fun q3 => ?_⟩
      · have := hg.1
        exact hI2 j hj (by omega) hg
      · obtain ⟨p6, p1, p2⟩ := lx_pr (a := a) (b := b) (by omega) (by omega) (by omega)
        have pl : prI a b < pcn n := prI_lt hn (by omega) (by omega) (by omega)
        have jl := ppi_lt p6
        refine sp_pairOf (by omega) (by omega) (by omega) ?_
        unfold wp_X8_foundOf
        rw [fnd_b (by omega) (by omega)]
        have fl := fnd_lt (P := P) (i := prI a b)
        have nx : ¬ good n.toNat P (fun P => h 44 (P : Int) % 8) (ppi (prI a b)) → X2 (b + 1) := fun no => hX2 _ ⟨by omega, fun j hj hl hg => by
          by_cases z : (lo6 j : Int) = a ∧ (up6 j : Int) = b
          · have := (lx_all ⟨j, hj⟩ ⟨ppi (prI a b), jl⟩).2 (by dsimp only; omega) (by dsimp only; omega)
            dsimp only at this
            rw [this] at hg
            exact no hg
          · exact hI2 j hj (by omega) hg⟩ (by omega)
        refine ⟨inR_of (by omega) (by omega), fun z => ?_, fun z => nx (fun hg => by have := hg.2.1; rw [ppi_ppi] at this; omega)⟩
        have hu : unkI (pcn n) P (prI a b) := ⟨pl, by omega⟩
        refine sp_worstB hn hP hu (fun P' _ p2 => (tc P' p2).1) ?_
        have mb : 0 ≤ mxW (fun P => h 44 (P : Int) % 8) P (prI a b) ∧ mxW (fun P => h 44 (P : Int) % 8) P (prI a b) ≤ 7 := by
          unfold mxW
          dsimp only
          omega
        refine ⟨inR_of (by omega) (by omega), inR_of (by omega) (by omega), fun z2 => kk _ (Or.inr ⟨by dsimp only; omega, ppi (prI a b), jl, ⟨by omega, by rw [ppi_ppi]; omega, by rw [ppi_ppi]; dsimp only; omega⟩, fun j' hj' => ?_, by omega⟩), fun z2 => nx (fun hg => ?_)⟩
        · have := (lx_all ⟨j', by omega⟩ ⟨ppi (prI a b), jl⟩).1 hj'
          dsimp only at this
          exact hI2 j' (by omega) (by omega)
        · have := hg.2.2
          rw [ppi_ppi] at this
          dsimp only at this
          omega
    · rcases hl with hl | ⟨hl, hl2⟩
      · exact hI j hj hl
      · have u := up6_le hj; omega
theorem spM_nextPair {n : Int} {P : Nat} {h : aH} {Q : Int → Prop} (hn : 0 ≤ n ∧ n ≤ 4) (e : h 61 0 = n) (hP : P < 4 ^ pcn n) (hd : ∀ i : Nat, i < 6 → h 66 (17 + (ppi i : Int)) = cmc (fnd P i)) (ub : ∀ P' : Nat, P' < 4 ^ pcn n → 0 ≤ h 77 (mcode P' : Int) ∧ h 77 (mcode P' : Int) ≤ 6) (wr : WR n.toNat P (fun P => h 77 (mcode P : Int))) (kk : ∀ r, NP n.toNat P (fun P => h 77 (mcode P : Int)) r → Q r) : wp_X9_nextPair h Q := by
  have l6 := pcn_le hn
  have l4 := pow_pcn hn
  have ml := mcode_lt (P := P)
  have u0 := ub P hP
  unfold wp_X9_nextPair
  refine spM_codeNow hd ?_
  have gi := fun k (hk : k < 6) => gd_iff (n := n) (P := P) (k := k) hn hk
  have mm := fun k (hk : k < 6) => mx_m (u := h 77) (P := P) (k := k) (by omega) hk
  have cb : ∀ i, unkI (pcn n) P i → ∀ x, 1 ≤ x → x ≤ 3 → 0 ≤ h 77 (mcode (setF P i x) : Int) ∧ h 77 (mcode (setF P i x) : Int) ≤ 6 := fun i hu x x1 x3 => ub _ (setF_lt hn hP hu.1 x3)
  have mb : ∀ i, unkI (pcn n) P i → 0 ≤ mxW (fun P => h 77 (mcode P : Int)) P i ∧ mxW (fun P => h 77 (mcode P : Int)) P i ≤ 6 := fun i hu => by
    have c1 := cb i hu 1 (by omega) (by omega)
    have c2 := cb i hu 2 (by omega) (by omega)
    have c3 := cb i hu 3 (by omega) (by omega)
    unfold mxW
    dsimp only
    omega
  refine lp.rule (σ := Int × Int × Int) (μ := fun z => (7 - z.2.2).toNat) (I := fun z => (0 ≤ z.2.2 ∧ z.2.2 ≤ 6) ∧ (h 77 (mcode P : Int) = 0 → z.1 = -9) ∧ ((z.2.1 = 1000000 ∧ z.1 = -9 ∧ ∀ k : Nat, (k : Int) < z.2.2 → ¬ gd n.toNat (mcode P) k) ∨ (∃ j : Nat, (j : Int) < z.2.2 ∧ gd n.toNat (mcode P) j ∧ z.2.1 = 1 + mxW (fun P => h 77 (mcode P : Int)) P (ppi j) ∧ z.1 = 10 * (lo6 j : Int) + (up6 j : Int) ∧ (∀ k, k < j → gd n.toNat (mcode P) k → z.2.1 < 1 + mxW (fun P => h 77 (mcode P : Int)) P (ppi k)) ∧ ∀ k : Nat, (k : Int) < z.2.2 → gd n.toNat (mcode P) k → z.2.1 ≤ 1 + mxW (fun P => h 77 (mcode P : Int)) P (ppi k)))) ?_ (-9, 1000000, 0) ⟨⟨by dsimp only; omega, by dsimp only; omega⟩, fun _ => rfl, Or.inl ⟨rfl, rfl, fun k hk => by dsimp only at hk; omega⟩⟩
  rintro X ⟨r, s, t⟩ ⟨t0, h0, hI⟩ hX
  dsimp only at t0 h0 hI ⊢
  obtain ⟨k, rfl⟩ : ∃ k : Nat, t = (k : Int) := ⟨t.toNat, by omega⟩
  unfold wp_X9_nextPair_B14 wp_X9_nextPair_J63
  refine ⟨inR_of (by omega) (by omega), fun q => kk r ?_, fun q => ⟨⟨by omega, by omega⟩, inR_of (by omega) (by omega), fun q2 => kk r (Or.inl ⟨by dsimp only; omega, h0 (by omega)⟩), fun q2 => ?_⟩⟩
  · by_cases z : h 77 (mcode P : Int) = 0
    · exact Or.inl ⟨z, h0 z⟩
    · obtain ⟨⟨j0, j1, j2⟩, a⟩ := wr.ex hn z
      have g0 : gd n.toNat (mcode P) j0 := by
        rw [gi j0 j1]
        exact ⟨(valid_up hn (ppi_lt j1)).mpr (by rw [ppi_ppi]; exact j2.1), j2.2.1⟩
      rcases hI with ⟨_, _, y⟩ | ⟨j, y1, y2, y3, y4, y5, y6⟩
      · exact absurd g0 (y j0 (by omega))
      · have b1 := y6 j0 (by omega) g0
        have b2 := j2.2.2
        try dsimp only at b2
        have b3 := a (ppi j) ((gi j (by omega)).mp y2)
        try dsimp only at b3
        have es : s = h 77 (mcode P : Int) := by omega
        refine Or.inr ⟨by dsimp only; omega, j, by omega, ⟨y2.1, ((gi j (by omega)).mp y2).2, by dsimp only; omega⟩, fun j' hj' hg => ?_, y4⟩
        have g1 : gd n.toNat (mcode P) j' := by
          rw [gi j' (by omega)]
          exact ⟨(valid_up hn (ppi_lt (by omega))).mpr (by rw [ppi_ppi]; exact hg.1), hg.2.1⟩
        have := y5 j' hj' g1
        have := hg.2.2
        dsimp only at this
        omega
  · have k6 : k < 6 := by omega
    refine spM_wB hn e ml k6 (fun hg w w1 w3 => ?_) (fun r5 h5 => ?_)
    · have hu := (gi k k6).mp hg
      have c1 := cb (ppi k) hu
      have s1 := mcode_set (P := P) (i := ppi k) (v := 1) (by omega) (ppi_lt k6) (by omega)
      have s2 := mcode_set (P := P) (i := ppi k) (v := 2) (by omega) (ppi_lt k6) (by omega)
      have s3 := mcode_set (P := P) (i := ppi k) (v := 3) (by omega) (ppi_lt k6) (by omega)
      rw [ppi_ppi, show cmT 1 = 2 from rfl] at s1
      rw [ppi_ppi, show cmT 2 = 3 from rfl] at s2
      rw [ppi_ppi, show cmT 3 = 1 from rfl] at s3
      rcases (show w = 1 ∨ w = 2 ∨ w = 3 by omega) with rfl | rfl | rfl
      · rw [← s3]; have := c1 3 (by omega) (by omega); omega
      · rw [← s1]; have := c1 1 (by omega) (by omega); omega
      · rw [← s2]; have := c1 2 (by omega) (by omega); omega
    · rw [mm k k6] at h5
      have rb : 0 ≤ r5 ∧ r5 ≤ 1000000 := by
        rcases h5 with ⟨_, z⟩ | ⟨z0, z⟩
        · omega
        · have := mb (ppi k) ((gi k k6).mp z0); omega
      have sb : 0 ≤ s ∧ s ≤ 1000000 := by
        rcases hI with ⟨z, _⟩ | ⟨j, y1, y2, y3, _⟩
        · omega
        · have := mb (ppi j) ((gi j (by omega)).mp y2); omega
      have hlt : (7 - ((k : Int) + 1)).toNat < (7 - (k : Int)).toNat := by omega
      refine ⟨inR_of (by omega) (by omega), inR_of (by omega) (by omega), fun z => ?_, fun z => spM_lower k6 (spM_upper k6 ?_)⟩
      · rw [if_pos z]
        rintro _ rfl
        refine hX _ ⟨by dsimp only; omega, h0, ?_⟩ hlt
        dsimp only
        rcases hI with ⟨y1, y2, y3⟩ | ⟨j, y1, y2, y3, y4, y5, y6⟩
        · refine Or.inl ⟨y1, y2, fun k' hk' hg => ?_⟩
          by_cases w : k' = k
          · rw [w] at hg
            rcases h5 with ⟨z0, _⟩ | ⟨z0, z1⟩
            · exact z0 hg
            · have := mb (ppi k) ((gi k k6).mp z0); omega
          · exact y3 k' (by omega) hg
        · refine Or.inr ⟨j, by omega, y2, y3, y4, y5, fun k' hk' hg => ?_⟩
          by_cases w : k' = k
          · rw [w] at hg ⊢
            rcases h5 with ⟨z0, _⟩ | ⟨z0, z1⟩
            · exact absurd hg z0
            · omega
          · exact y6 k' (by omega) hg
      · rw [if_neg z]
        rintro _ rfl
        refine hX _ ⟨by dsimp only; omega, fun w => by omega, ?_⟩ hlt
        dsimp only
        rcases h5 with ⟨_, z1⟩ | ⟨z0, z1⟩
        · omega
        · refine Or.inr ⟨k, by omega, z0, z1, rfl, fun k' hk' hg => ?_, fun k' hk' hg => ?_⟩
          · rcases hI with ⟨y1, y2, y3⟩ | ⟨j, y1, y2, y3, y4, y5, y6⟩
            · exact absurd hg (y3 k' (by omega))
            · have := y6 k' (by omega) hg; omega
          · by_cases w : k' = k
            · rw [w]; omega
            · rcases hI with ⟨y1, y2, y3⟩ | ⟨j, y1, y2, y3, y4, y5, y6⟩
              · exact absurd hg (y3 k' (by omega))
              · have := y6 k' (by omega) hg; omega
theorem Inv.ordc {c : Int} {h h' : aH} (i : Inv c h) (hk : ∀ k, k ≠ 43 → k ≠ 44 → k ≠ 45 → h' k = h k) (iw : ORDC (h' 43 2) (h' 43 3) (h' 44)) : Inv c h' := by
  have s : ∀ k, k ≠ 43 ∧ k ≠ 44 ∧ k ≠ 45 → h' k = h k := fun k q => hk k q.1 q.2.1 q.2.2
  obtain ⟨i1, i2, i3, i4, i5, i6, i7, i8, i9, i10, i11⟩ := i
  refine ⟨i1.fr (by rw [s 1 (by omega)]) (by rw [s 59 (by omega)]) (s 2 (by omega)) (s 60 (by omega)), i2.fr (by rw [s 3 (by omega)]) (by rw [s 3 (by omega)]) (s 61 (by omega)) (s 4 (by omega)) (s 62 (by omega)) (s 6 (by omega)) (s 64 (by omega)) (s 7 (by omega)) (s 65 (by omega)), ?_, i4.fr (by rw [s 3 (by omega)]) (by rw [s 15 (by omega)]) (by rw [s 15 (by omega)]) (by rw [s 59 (by omega)]) (s 69 (by omega)) (fun k q1 q2 => s k (by omega)), i5.fr (by rw [s 3 (by omega)]) (s 42 (by omega)) (s 68 (by omega)) (s 67 (by omega)) (s 38 (by omega)) (s 39 (by omega)) (s 40 (by omega)) (s 41 (by omega)), i6.fr (by rw [s 52 (by omega)]) (by rw [s 52 (by omega)]) (by rw [s 59 (by omega)]) (by rw [s 59 (by omega)]) (fun k q1 q2 => s k (by omega)) (fun k q1 q2 => s k (by omega)), ?_, iw, ?_, ?_, ?_⟩
  · rw [s 3 (by omega), s 13 (by omega), s 14 (by omega), s 66 (by omega)]; exact i3
  · rw [s 52 (by omega), s 4 (by omega), s 58 (by omega)]; exact i7
  · rw [s 3 (by omega), s 76 (by omega), s 77 (by omega)]; exact i9
  · rw [s 3 (by omega), s 7 (by omega), s 48 (by omega)]; exact i10
  · rw [s 0 (by omega), s 59 (by omega)]; exact i11
theorem S_planned {c x : Int} {h : aH} {K : aH → Prop} (i : Inv c h) (hx : x = 2 ∨ x = 3 ∨ x = 4) (hK : ∀ h', Inv (c + 1) h' → K h') : wp_X8_planned x h (fun r h1 => wp_X9_now x h1 (fun r2 h2 => inR r ∧ inR r2 ∧ ((r = r2 → K h2) ∧ (¬ r = r2 → False)))) := by
  obtain ⟨hn, hp, e1, e2, hw, hg, hb⟩ := i.2.1
  have im := i.2.2.1
  unfold wp_X8_planned
  refine sp_prepare hn i.2.2.2.2.2.2.2.1 (fun g g1 g2 ic => ?_)
  have ig : Inv c g := i.ordc g1 ic
  have e13 : g 13 = h 13 := g1 13 (by decide) (by decide) (by decide)
  have e66 : up g 59 0 0 66 = h 66 := by rw [up_ne (by decide), g1 66 (by decide) (by decide) (by decide)]
  have e61 : up g 59 0 0 61 0 = h 3 4 := by rw [up_ne (by decide), g1 61 (by decide) (by decide) (by decide)]; exact e1
  have om : ORDM (h 3 4) (up g 59 0 0 76) (up g 59 0 0 77) := by
    rw [up_ne (by decide), up_ne (by decide), g1 76 (by decide) (by decide) (by decide), g1 77 (by decide) (by decide) (by decide)]
    exact i.2.2.2.2.2.2.2.2.1
  have tc : TBC (h 3 4) (g 44) := by
    rcases ic with z | z
    · omega
    · rw [g2] at z
      exact z.2.2.2
  have hd : ∀ j : Nat, j < 6 → up g 59 0 0 66 (17 + (ppi j : Int)) = cmc (fnd (h 13 2).toNat j) := by rw [e66]; exact im.2.2.2.2
  have hP := im.2.2.2.1
  have l4 := pow_pcn hn
  have k0 := hK _ ig.thr
  have ix : inR x := inR_of (by omega) (by omega)
  unfold wp_X9_now
  generalize eG : up g 59 0 0 = G at *
  rw [e13]
  obtain ⟨P, eP⟩ : ∃ P : Nat, h 13 2 = (P : Int) := ⟨(h 13 2).toNat, by omega⟩
  rw [eP] at hP hd ⊢
  rw [show ((P : Nat) : Int).toNat = P by omega] at hd
  have hP' : P < 4 ^ pcn (h 3 4) := by omega
  have uq := WR.uniq hn (fun P hp => (tc P hp).2.2.2) (fun P hp => (om P hp).2)
  have ub : ∀ P' : Nat, P' < 4 ^ pcn (h 3 4) → 0 ≤ G 77 (mcode P' : Int) ∧ G 77 (mcode P' : Int) ≤ 6 := fun P' hp => by
    have a := uq P' hp
    have b := (tc P' hp).2.2.1
    try dsimp only at a
    omega
  have ml := mcode_lt (P := P)
  have mo := MO_le (n := (h 3 4).toNat) (P := P)
  have t0 := tc P hP'
  have o0 := om P hP'
  refine ⟨ix, fun q => ?_, fun q => ⟨fun q2 => ?_, fun q2 => ?_⟩⟩
  · unfold wp_X5_ordersLeft
    refine ⟨⟨by omega, by omega⟩, ?_⟩
    rw [bshr3 t0.1, t0.2.1]
    intro h1 eh
    rw [eG] at eh
    rw [eh]
    clear eh h1
    refine sp_in2 ix inR0 (inR_of (by omega) (by omega)) (fun nq => by omega) (fun _ _ => ⟨ix, fun z => by omega, fun z => ⟨fun z2 => by omega, fun z2 => ⟨fun z3 => by omega, fun z3 => spM_codeNow hd ⟨⟨by omega, by omega⟩, ?_⟩⟩⟩⟩)
    rw [o0.1]
    exact fin_ok rfl (inR_of (by omega) (by omega)) k0
  · refine sp_worstOf (by omega) t0.1 ?_
    intro h1 eh
    rw [eG] at eh
    rw [eh]
    clear eh h1
    refine sp_in2 ix inR0 (inR_of (by omega) (by omega)) (fun nq => by omega) (fun _ _ => ⟨ix, fun z => ⟨fun z2 => spM_codeNow hd ⟨⟨by omega, by omega⟩, ?_⟩, fun z2 => by omega⟩, fun z => by omega⟩)
    have a := uq P hP'
    try dsimp only at a
    exact fin_ok a (inR_of (by omega) (by omega)) k0
  · refine sp_nextPair hn g2 hP' tc (fun r hr => ?_)
    intro h1 eh
    rw [eG] at eh
    rw [eh]
    clear eh h1
    refine sp_in2 ix inR0 (inR_of (by omega) (by omega)) (fun nq => by omega) (fun _ _ => ⟨ix, fun z => ⟨fun z2 => by omega, fun z2 => ⟨fun z3 => spM_nextPair hn e61 hP' hd ub o0.2 (fun r2 hr2 => ?_), fun z3 => by omega⟩⟩, fun z => by omega⟩)
    refine fin_ok ?_ hr.bd k0
    have cg : ∀ i, unkI (pcn (h 3 4)) P i → mxW (fun P => g 44 (P : Int) % 8) P i = mxW (fun P => G 77 (mcode P : Int)) P i := fun i hu => by
      have s := fun v (hv' : 1 ≤ v ∧ v ≤ 3) => uq (setF P i v) (setF_lt hn hP' hu.1 hv'.2)
      have s1 := s 1 (by omega)
      have s2 := s 2 (by omega)
      have s3 := s 3 (by omega)
      unfold mxW
      dsimp only at s1 s2 s3 ⊢
      rw [s1, s2, s3]
    have gg : ∀ j, j < 6 → (good (h 3 4).toNat P (fun P => g 44 (P : Int) % 8) j ↔ good (h 3 4).toNat P (fun P => G 77 (mcode P : Int)) j) := fun j hj => by
      unfold good
      constructor
      · rintro ⟨a, b, d⟩
        have hu : unkI (pcn (h 3 4)) P (ppi j) := ⟨(valid_up hn (ppi_lt hj)).mpr (by rw [ppi_ppi]; exact a), b⟩
        refine ⟨a, b, ?_⟩
        rw [← cg _ hu, d]
        exact uq P hP'
      · rintro ⟨a, b, d⟩
        have hu : unkI (pcn (h 3 4)) P (ppi j) := ⟨(valid_up hn (ppi_lt hj)).mpr (by rw [ppi_ppi]; exact a), b⟩
        refine ⟨a, b, ?_⟩
        rw [cg _ hu, d]
        exact (uq P hP').symm
    have hr3 : NP (h 3 4).toNat P (fun P => G 77 (mcode P : Int)) r := by
      have u0 := uq P hP'
      rcases hr with ⟨a, b⟩ | ⟨a, j, j1, j2, j3, j4⟩
      · exact Or.inl ⟨by dsimp only; rw [← u0]; exact a, b⟩
      · exact Or.inr ⟨by dsimp only; rw [← u0]; exact a, j, j1, (gg j j1).mp j2, fun j' hj' hg => j3 j' hj' ((gg j' (by omega)).mpr hg), j4⟩
    exact hr3.uniq hr2
theorem S_now {c x : Int} {h : aH} {K : aH → Prop} (i : Inv c h) (hx : inR x) (hK : ∀ h', Inv (c + 1) h' → K h') : wp_X8_now x h (fun r h1 => wp_X9_now x h1 (fun r2 h2 => inR r ∧ inR r2 ∧ ((r = r2 → K h2) ∧ (¬ r = r2 → False)))) := by
  obtain ⟨hn, hp, e1, e2, hw, hg, hb⟩ := i.2.1
  have im := i.2.2.1
  have iu := i.2.2.2.1
  -- the reference, by what it is asked
  have R : ∀ (g : aH) (r : Int), inR r → ((0 ≤ x ∧ x ≤ 6) → ((x = 3 → wp_X9_codeNow (up g 59 0 0) (fun r5 => (0 ≤ r5 ∧ r5 < 4096) ∧ inR r ∧ inR (up g 59 0 0 77 r5) ∧ ((r = up g 59 0 0 77 r5 → K (up g 59 0 0)) ∧ (¬ r = up g 59 0 0 77 r5 → False)))) ∧ (x = 4 → wp_X9_nextPair (up g 59 0 0) (fun r2 => inR r ∧ inR r2 ∧ ((r = r2 → K (up g 59 0 0)) ∧ (¬ r = r2 → False)))) ∧ (x = 5 → wp_X9_range (up g 59 0 0) (fun r2 h2 => inR r ∧ inR r2 ∧ ((r = r2 → K h2) ∧ (¬ r = r2 → False)))) ∧ (x = 6 → r = g 59 18) ∧ (x = 0 → r = g 66 0) ∧ (x = 1 → wp_X9_knownMany (up g 59 0 0) (fun r2 => inR r ∧ inR r2 ∧ ((r = r2 → K (up g 59 0 0)) ∧ (¬ r = r2 → False)))) ∧ (x = 2 → wp_X9_codeNow (up g 59 0 0) (fun r5 => (0 ≤ r5 ∧ r5 < 4096) ∧ inR r ∧ inR (up g 59 0 0 76 r5) ∧ ((r = up g 59 0 0 76 r5 → K (up g 59 0 0)) ∧ (¬ r = up g 59 0 0 76 r5 → False)))))) → (¬ (0 ≤ x ∧ x ≤ 6) → r = -1) → K (up g 59 0 0) → wp_X9_now x g (fun r2 h2 => inR r ∧ inR r2 ∧ ((r = r2 → K h2) ∧ (¬ r = r2 → False))) := by
    intro g r hr h1 h2 hk
    unfold wp_X9_now
    rintro _ rfl
    refine sp_in2 hx inR0 (inR_of (by omega) (by omega)) (fun nq => fin_ok (h2 nq) hr hk) (fun x0 x6 => ?_)
    obtain ⟨a3, a4, a5, a6, a0, a1, a2⟩ := h1 ⟨x0, x6⟩
    refine ⟨hx, fun q => ⟨fun q3 => a3 q3, fun q3 => ⟨fun q4 => a4 q4, fun q4 => ⟨fun q5 => a5 q5, fun q5 => fin_ok ?_ hr hk⟩⟩⟩, fun q => ⟨fun q0 => fin_ok ?_ hr hk, fun q0 => ⟨fun q1 => a1 q1, fun q1 => a2 (by omega)⟩⟩⟩
    · rw [thr59 (by decide)]; exact a6 (by omega)
    · rw [up_ne (by decide)]; exact a0 q0
  unfold wp_X8_now
  have k0 := hK _ i.thr
  have hday := im.1
  have hsz := iu.2.1
  refine ⟨hx, fun q => R h _ (inR_of (by omega) (by omega)) (fun z => by omega) (fun _ => rfl) k0, fun q => R h _ (inR_of (by omega) (by omega)) (fun _ => ⟨fun z => by omega, fun z => by omega, fun z => by omega, fun z => by omega, fun _ => im.2.1.symm, fun z => by omega, fun z => by omega⟩) (fun z => by omega) k0, fun q => ?_, fun q => ?_, fun q => ?_, fun q => ?_, fun q => ?_, fun q => R h _ (inR_of (by omega) (by omega)) (fun _ => ⟨fun z => by omega, fun z => by omega, fun z => by omega, fun _ => iu.2.2.1.symm, fun z => by omega, fun z => by omega, fun z => by omega⟩) (fun z => by omega) k0⟩
  · have bd : ctN (fun i => decide (fnd (h 13 2).toNat i ≠ 0)) 6 ≤ 6 := ctN_le _ _
    have ir : inR ((ctN (fun i => decide (fnd (h 13 2).toNat i ≠ 0)) 6 : Nat) : Int) := inR_of (by omega) (by omega)
    refine sp_knownPairs hn im.2.2.2.1 (R h _ ir (fun _ => ⟨fun z => by omega, fun z => by omega, fun z => by omega, fun z => by omega, fun z => by omega, fun _ => ?_, fun z => by omega⟩) (fun z => by omega) k0)
    have f66 : up h 59 0 0 66 = h 66 := up_ne (by decide)
    refine sp_knownMany (by rw [f66]; exact im.kb) ?_
    rw [f66, im.known]
    exact fin_ok rfl ir k0
  · rw [q] at *; exact S_planned i (Or.inl rfl) hK
  · rw [q] at *; exact S_planned i (Or.inr (Or.inl rfl)) hK
  · rw [q] at *; exact S_planned i (Or.inr (Or.inr rfl)) hK
  · obtain ⟨p, ep⟩ : ∃ p : Nat, h 3 5 = (p : Int) := ⟨(h 3 5).toNat, by omega⟩
    have id := i.2.2.2.2.2.2.2.2.2.1
    rw [ep] at id hb hp e2
    refine sp_range id (fun r hr => R h r (by have := hr.1; exact inR_of (by omega) (by omega)) (fun _ => ⟨fun z => by omega, fun z => by omega, fun _ => ?_, fun z => by omega, fun z => by omega, fun z => by omega, fun z => by omega⟩) (fun z => by omega) k0)
    refine spM_range (p := p) (b := h 7) (by omega) (by rw [up_ne (by decide)]; exact e2) (by rw [up_ne (by decide)]; exact hb) (fun r2 g g1 hr2 => fin_ok (hr.uniq hr2) (by have := hr.1; exact inR_of (by omega) (by omega)) (hK _ ?_))
    exact i.fr (by omega) (fun k k1 _ _ _ _ _ _ _ k79 => by rw [g1 k k79, up_ne k1]) (by rw [g1 1 (by decide), up_ne (by decide)]) (by rw [g1 59 (by decide), thr59 (by decide)]) (by rw [g1 59 (by decide), thr59 (by decide)]) (by rw [g1 59 (by decide), thr59 (by decide)]) (by rw [g1 59 (by decide), thr59 (by decide)]) (by rw [g1 59 (by decide), thr59 (by decide)])
