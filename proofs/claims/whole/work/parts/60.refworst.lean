-- the reference's table
theorem spM_count {n : Int} {c : Nat} {m : Nat} {X4 : Int × aH → Prop} {h : aH} (hn : 0 ≤ n ∧ n ≤ 4) (hc : c < 4096) (em : m = mskN c 6) (om : h 59 27 = (ctN (okV n.toNat) 256 : Int)) (ol : ∀ v, v < 256 → okV n.toNat v = true → h 75 (ctN (okV n.toNat) v : Int) = (cdN n.toNat v 6 : Int)) (kk : lp (fun X y => wp_X9_worsts_B102 X4 c (MOr n.toNat c : Int) (up h 76 c (MOr n.toNat c : Int)) X y.1 y.2) (1000000, 0)) : lp (fun X y => wp_X9_worsts_B51 X4 c h m X y.1 y.2) (0, 0) := by
  have o75 := ok75 ⟨n.toNat, by omega⟩
  dsimp only at o75
  have ml : m < 4096 := by rw [em]; exact msk_lt (Nat.le_refl _)
  have cv : ∀ j : Nat, j < ctN (okV n.toNat) 256 → ∃ o : Nat, o < 4096 ∧ h 75 (j : Int) = (o : Int) := fun j hj => by
    obtain ⟨v, v1, v2, v3⟩ := ctN_surj hj
    exact ⟨cdN n.toNat v 6, cd_lt (Nat.le_refl _), by rw [← v3]; exact ol v v1 v2⟩
  have fin : ctN (fun j => decide (((h 75 (j : Int)).toNat ^^^ c) &&& m = 0)) (ctN (okV n.toNat) 256) = MOr n.toNat c := by
    rw [ctN_comp]
    unfold MOr
    refine ctN_congr (fun v hv' => ?_)
    cases ok : okV n.toNat v
    · rfl
    · rw [ol v hv' ok, show ((cdN n.toNat v 6 : Nat) : Int).toNat = cdN n.toNat v 6 by omega, em]
      have := cns_x hc (cd_lt (n := n.toNat) (v := v) (Nat.le_refl 6))
      rw [Bool.true_and, Bool.true_and, Bool.eq_iff_iff, decide_eq_true_iff]
      exact this
  generalize ctN (okV n.toNat) 256 = W at *
  refine lp.rule (μ := fun z => (77 - z.2).toNat) (I := fun z => (0 ≤ z.2 ∧ z.2 ≤ (W : Int)) ∧ z.1 = (ctN (fun j => decide (((h 75 (j : Int)).toNat ^^^ c) &&& m = 0)) z.2.toNat : Int)) ?_ (0, 0) ⟨⟨by dsimp only; omega, by dsimp only; omega⟩, rfl⟩
  rintro X ⟨r, t⟩ ⟨t0, hr⟩ hX
  dsimp only at t0 hr ⊢
  obtain ⟨j, rfl⟩ : ∃ j : Nat, t = (j : Int) := ⟨t.toNat, by omega⟩
  rw [show ((j : Nat) : Int).toNat = j by omega] at hr
  subst hr
  unfold wp_X9_worsts_B51
  rw [om]
  refine ⟨inR_of (by omega) (by omega), inR_of (by omega) (by omega), fun q => ⟨⟨by omega, by omega⟩, ?_⟩, fun q => ⟨⟨by omega, by omega⟩, ?_⟩⟩
  · rw [show j = W by omega, fin]
    rintro _ rfl
    exact kk
  · obtain ⟨o, o1, o2⟩ := cv j (by omega)
    have xl : o ^^^ c < 4096 := Nat.xor_lt_two_pow (n := 12) o1 hc
    have ale : (o ^^^ c) &&& m ≤ o ^^^ c := Nat.and_le_left
    rw [o2, bxor_n (by omega) (by omega), band_n (by omega) (by omega)]
    refine ⟨⟨inR_of (by omega) (by omega), trivial⟩, ?_⟩
    rintro _ rfl
    refine hX _ ⟨⟨by dsimp only; omega, by dsimp only; omega⟩, ?_⟩ (by dsimp only; omega)
    dsimp only
    rw [show ((j : Int) + 1).toNat = j + 1 by omega, ctN_s, o2, show ((o : Nat) : Int).toNat = o by omega]
    by_cases z : (o ^^^ c) &&& m = 0
    · rw [if_pos (show (((o ^^^ c) &&& m : Nat) : Int) = 0 by omega), decide_eq_true z]; rfl
    · rw [if_neg (show ¬ (((o ^^^ c) &&& m : Nat) : Int) = 0 by omega), decide_eq_false z]; rfl
theorem gd_iff {n : Int} {P k : Nat} (hn : 0 ≤ n ∧ n ≤ 4) (hk : k < 6) : gd n.toNat (mcode P) k ↔ unkI (pcn n) P (ppi k) := by
  unfold gd unkI
  rw [valid_up hn (ppi_lt hk), ppi_ppi, fnd_mcode hk]
  have : cmT (fnd P (ppi k)) = 0 ↔ fnd P (ppi k) = 0 := ⟨fun z => cmT_inj (y := 0) fnd_lt (by decide) z, fun z => by rw [z]; rfl⟩
  rw [this]
theorem mx_m {u : Int → Int} {P k : Nat} (hP : P < 4096) (hk : k < 6) : mxW (fun c => u (c : Int)) (mcode P) k = mxW (fun P => u (mcode P : Int)) P (ppi k) := by
  unfold mxW
  dsimp only
  rw [mcode_set hP (ppi_lt hk) (by decide), mcode_set hP (ppi_lt hk) (by decide), mcode_set hP (ppi_lt hk) (by decide), ppi_ppi, show cmT 1 = 2 from rfl, show cmT 2 = 3 from rfl, show cmT 3 = 1 from rfl]
  omega
/-- what stands in the reference's table at P -/
def TBM (n : Int) (f u : Int → Int) (P : Nat) : Prop := f (mcode P : Int) = (MO n.toNat P : Int) ∧ (0 ≤ u (mcode P : Int) ∧ u (mcode P : Int) ≤ (cntU (pcn n) P : Int)) ∧ WR n.toNat P (fun P => u (mcode P : Int))
theorem spM_worsts {n : Int} {h : aH} {Q : aH → Prop} (hn : 0 ≤ n ∧ n ≤ 4) (e : h 61 0 = n) (om : h 59 27 = (ctN (okV n.toNat) 256 : Int)) (ol : ∀ v, v < 256 → okV n.toNat v = true → h 75 (ctN (okV n.toNat) v : Int) = (cdN n.toNat v 6 : Int)) (kk : ∀ g : aH, (∀ c, c ≠ 76 → c ≠ 77 → g c = h c) → ORDM n (g 76) (g 77) → Q g) : wp_X9_worsts h Q := by
  have l6 := pcn_le hn
  have l4 := pow_pcn hn
  unfold wp_X9_worsts
  refine lp.rule (σ := Int × aH) (μ := fun z => (z.1 + 1).toNat) (I := fun z => (-1 ≤ z.1 ∧ z.1 ≤ 4095) ∧ (∀ c, c ≠ 76 → c ≠ 77 → z.2 c = h c) ∧ (∀ c : Nat, z.1 < (c : Int) → c < 4096 → 0 ≤ z.2 77 c ∧ z.2 77 c ≤ 1000000) ∧ ∀ P : Nat, P < 4 ^ pcn n → z.1 < (mcode P : Int) → TBM n (z.2 76) (z.2 77) P) ?_ (4095, h) ⟨⟨by dsimp only; omega, by dsimp only; omega⟩, fun _ _ _ => rfl, fun c c1 c2 => by dsimp only at c1; omega, fun P _ p2 => by dsimp only at p2; have := mcode_lt (P := P); omega⟩
  rintro X ⟨t, g⟩ ⟨t0, g1, g2, g3⟩ hX
  dsimp only at t0 g1 g2 g3 ⊢
  unfold wp_X9_worsts_B4
  refine ⟨inR_of (by omega) (by omega), fun q => kk g g1 (fun P hP => ?_), fun q => ?_⟩
  · have := g3 P hP (by omega)
    exact ⟨this.1, this.2.2⟩
  obtain ⟨c, rfl⟩ : ∃ c : Nat, t = (c : Int) := ⟨t.toNat, by omega⟩
  have hc : c < 4096 := by omega
  refine lp.rule (μ := fun z => (7 - z.2).toNat) (I := fun z => (0 ≤ z.2 ∧ z.2 ≤ 6) ∧ z.1 = (mskN c z.2.toNat : Int)) ?_ (0, 0) ⟨⟨by dsimp only; omega, by dsimp only; omega⟩, rfl⟩
  rintro X2 ⟨m, t2⟩ ⟨t20, hm⟩ hX2
  dsimp only at t20 hm ⊢
  obtain ⟨k, rfl⟩ : ∃ k : Nat, t2 = (k : Int) := ⟨t2.toNat, by omega⟩
  rw [show ((k : Nat) : Int).toNat = k by omega] at hm
  subst hm
  unfold wp_X9_worsts_B12
  refine ⟨inR_of (by omega) (by omega), fun q2 => ?_, fun q2 => ?_⟩
  · have e6 : k = 6 := by omega
    subst e6
    refine spM_count hn hc rfl (by rw [g1 59 (by decide) (by decide)]; exact om) (by rw [g1 75 (by decide) (by decide)]; exact ol) ?_
    have mo := MOr_le (n := n.toNat) (c := c)
    -- behind it
    have J : ∀ w : Int, (0 ≤ w ∧ w ≤ 1000000) → (1 < MOr n.toNat c → (w = 1000000 ∨ ∃ k, k < 6 ∧ gd n.toNat c k ∧ w = 1 + mxW (fun c => g 77 (c : Int)) c k) ∧ ∀ k, k < 6 → gd n.toNat c k → w ≤ 1 + mxW (fun c => g 77 (c : Int)) c k) → wp_X9_worsts_J145 X c (MOr n.toNat c : Int) (up g 76 c (MOr n.toNat c : Int)) w := fun w hw hww => by
      unfold wp_X9_worsts_J145
      refine ⟨⟨inR_of (by omega) (by omega), trivial⟩, ?_⟩
      rintro _ rfl
      generalize ev : (if (MOr n.toNat c : Int) ≤ 1 then 0 else w : Int) = v
      have vb : 0 ≤ v ∧ v ≤ 1000000 := by rw [← ev]; split <;> omega
      have o77 : ∀ c' : Nat, c' ≠ c → up (up g 76 c (MOr n.toNat c : Int)) 77 c v 77 (c' : Int) = g 77 c' := fun c' hc' => by rw [up_eq, if_neg (by omega), up_ne (by decide)]
      have s77 : up (up g 76 c (MOr n.toNat c : Int)) 77 c v 77 (c : Int) = v := by rw [up_eq, if_pos rfl]
      have o76 : ∀ c' : Nat, c' ≠ c → up (up g 76 c (MOr n.toNat c : Int)) 77 c v 76 (c' : Int) = g 76 c' := fun c' hc' => by rw [up_ne (by decide), up_eq, if_neg (by omega)]
      have s76 : up (up g 76 c (MOr n.toNat c : Int)) 77 c v 76 (c : Int) = (MOr n.toNat c : Int) := by rw [up_ne (by decide), up_eq, if_pos rfl]
      refine hX _ ⟨⟨by dsimp only; omega, by dsimp only; omega⟩, fun c' c1 c2 => by dsimp only; rw [up_ne c2, up_ne c1, g1 c' c1 c2], fun c' c1 c2 => ?_, fun P hP hm => ?_⟩ (by dsimp only; omega)
      · dsimp only at c1 ⊢
        by_cases z : c' = c
        · rw [z, s77]; exact vb
        · rw [o77 c' z]; exact g2 c' (by omega) c2
      · dsimp only at hm ⊢
        generalize up (up g 76 c (MOr n.toNat c : Int)) 77 c v = G at *
        have chn : ∀ P' i x, P' < 4 ^ pcn n → unkI (pcn n) P' i → (1 ≤ x ∧ x ≤ 3) → mcode P' < mcode (setF P' i x) := fun P' i x hp hu hx => by
          have i6 : i < 6 := by have := hu.1; omega
          rw [mcode_set (by omega) i6 hx.2]
          refine setF_gt ?_ ?_
          · rw [fnd_mcode (ppi_lt i6), ppi_ppi, hu.2]; rfl
          · rcases (show x = 1 ∨ x = 2 ∨ x = 3 by omega) with rfl | rfl | rfl <;> decide
        have mxG : ∀ P', P' < 4 ^ pcn n → c ≤ mcode P' → ∀ i, unkI (pcn n) P' i → mxW (fun P => G 77 (mcode P : Int)) P' i = mxW (fun P => g 77 (mcode P : Int)) P' i := fun P' hp hcp i hu => by
          have s := fun x hx => chn P' i x hp hu hx
          have s1 := s 1 (by omega)
          have s2 := s 2 (by omega)
          have s3 := s 3 (by omega)
          unfold mxW
          dsimp only
          rw [o77 _ (by omega), o77 _ (by omega), o77 _ (by omega)]
        by_cases z : mcode P = c
        · have i76 : G 76 (mcode P : Int) = (MO n.toNat P : Int) := by rw [z, s76, ← z]; rfl
          have er : MOr n.toNat c = MO n.toNat P := by rw [← z]; rfl
          rw [er] at hww ev
          have uk : ∀ k, k < 6 → gd n.toNat c k → unkI (pcn n) P (ppi k) := fun k hk hg => by rw [← z] at hg; exact (gd_iff hn hk).mp hg
          have ku : ∀ i, unkI (pcn n) P i → ppi i < 6 ∧ gd n.toNat c (ppi i) := fun i hu => by
            have i6 : i < 6 := by have := hu.1; omega
            refine ⟨ppi_lt i6, ?_⟩
            rw [← z, gd_iff hn (ppi_lt i6), ppi_ppi]
            exact hu
          have mm : ∀ k, k < 6 → mxW (fun c => g 77 (c : Int)) c k = mxW (fun P => g 77 (mcode P : Int)) P (ppi k) := fun k hk => by rw [← z]; exact mx_m (by omega) hk
          have cb : ∀ i, unkI (pcn n) P i → mxW (fun P => g 77 (mcode P : Int)) P i + 1 ≤ (cntU (pcn n) P : Int) := fun i hu => by
            have sl := fun x (hx : 1 ≤ x ∧ x ≤ 3) => setF_lt (v := x) hn hP hu.1 hx.2
            have T := fun x hx => (g3 (setF P i x) (sl x hx) (by have := chn P i x hP hu hx; omega)).2.1
            have C := fun x (hx : 1 ≤ x ∧ x ≤ 3) => cntU_set (m := pcn n) (P := P) (i := i) (v := x) (by omega) (by have := hu.1; omega) hu hx
            have T1 := T 1 (by omega)
            have T2 := T 2 (by omega)
            have T3 := T 3 (by omega)
            have C1 := C 1 (by omega)
            have C2 := C 2 (by omega)
            have C3 := C 3 (by omega)
            unfold mxW
            dsimp only
            omega
          have i77 : G 77 (mcode P : Int) = v := by rw [z]; exact s77
          by_cases y : MO n.toNat P ≤ 1
          · rw [if_pos (by omega)] at ev
            refine ⟨i76, by rw [i77, ← ev]; omega, fun _ => ?_, fun y2 => by omega⟩
            dsimp only; rw [i77, ev]
          · rw [if_neg (by omega)] at ev
            obtain ⟨w1, w2⟩ := hww (by omega)
            have ex : ∃ i, unkI (pcn n) P i := by
              refine Classical.byContradiction (fun no => ?_)
              have := MO_known (n := n.toNat) (P := P) (by omega) hP (fun j hj z2 => no ⟨j, hj, z2⟩)
              split at this <;> omega
            obtain ⟨i0, hi0⟩ := ex
            obtain ⟨k0, kg⟩ := ku i0 hi0
            have b1 := w2 _ k0 kg
            rw [mm _ k0, ppi_ppi] at b1
            have b2 := cb i0 hi0
            have c6 := cntU_le (m := pcn n) (P := P)
            refine ⟨i76, by rw [i77, ← ev]; omega, fun y2 => by omega, fun _ => ⟨?_, fun i hu => ?_⟩⟩
            · rcases w1 with w1 | ⟨k, k1, k2, k3⟩
              · omega
              · refine ⟨ppi k, uk k k1 k2, ?_⟩
                have := mxG P hP (by omega) (ppi k) (uk k k1 k2)
                dsimp only at this ⊢
                rw [i77, ← ev, this, k3, mm k k1]
            · obtain ⟨k1, k2⟩ := ku i hu
              have a1 := w2 _ k1 k2
              rw [mm _ k1, ppi_ppi] at a1
              have := mxG P hP (by omega) i hu
              dsimp only at this ⊢
              rw [i77, ← ev, this]
              exact a1
        · have old := g3 P hP (by omega)
          refine ⟨by rw [o76 _ z]; exact old.1, by rw [o77 _ z]; exact old.2.1, ?_⟩
          have em : ∀ i, unkI (pcn n) P i → mxW (fun P => G 77 (mcode P : Int)) P i = mxW (fun P => g 77 (mcode P : Int)) P i := mxG P hP (by omega)
          have o := o77 _ z
          obtain ⟨a1, a2⟩ := old.2.2
          refine ⟨fun y => by dsimp only; rw [o]; exact a1 y, fun y => ?_⟩
          obtain ⟨⟨i, i1, i2⟩, b⟩ := a2 y
          dsimp only at i2 ⊢
          rw [o]
          refine ⟨⟨i, i1, ?_⟩, fun j hj => ?_⟩
          · have := em i i1
            rw [this]; exact i2
          · have := em j hj
            rw [this]; exact b j hj
    refine lp.rule (μ := fun z => (7 - z.2).toNat) (I := fun z => (0 ≤ z.2 ∧ z.2 ≤ 6) ∧ (0 ≤ z.1 ∧ z.1 ≤ 1000000) ∧ (z.1 = 1000000 ∨ ∃ k, k < 6 ∧ gd n.toNat c k ∧ z.1 = 1 + mxW (fun c => g 77 (c : Int)) c k) ∧ ∀ k : Nat, (k : Int) < z.2 → gd n.toNat c k → z.1 ≤ 1 + mxW (fun c => g 77 (c : Int)) c k) ?_ (1000000, 0) ⟨⟨by dsimp only; omega, by dsimp only; omega⟩, ⟨by dsimp only; omega, by dsimp only; omega⟩, Or.inl rfl, fun k hk => by dsimp only at hk; omega⟩
    rintro X3 ⟨w, t3⟩ ⟨t30, hw, hw1, hw2⟩ hX3
    dsimp only at t30 hw hw1 hw2 ⊢
    obtain ⟨k, rfl⟩ : ∃ k : Nat, t3 = (k : Int) := ⟨t3.toNat, by omega⟩
    unfold wp_X9_worsts_B102
    refine ⟨inR_of (by omega) (by omega), fun q3 => J w hw (fun _ => ⟨hw1, fun k' k1 k2 => hw2 k' (by omega) k2⟩), fun q3 => ⟨inR_of (by omega) (by omega), fun q4 => J w hw (fun z => by omega), fun q4 => ?_⟩⟩
    have e77 : up g 76 c (MOr n.toNat c : Int) 77 = g 77 := up_ne (by decide)
    refine spM_wB hn (by rw [up_ne (by decide), g1 61 (by decide) (by decide)]; exact e) hc (by omega) (by rw [e77]; exact fun hg x x1 x3 => g2 (setF c k x) (by have := setF_gt (v := x) hg.2 x1; omega) (setF4 hc (by omega) x3)) (fun r hr => ?_)
    rw [e77] at hr
    have mb : gd n.toNat c k → 0 ≤ mxW (fun c => g 77 (c : Int)) c k ∧ mxW (fun c => g 77 (c : Int)) c k ≤ 1000000 := fun hg => by
      have T := fun x (hx : 1 ≤ x ∧ x ≤ 3) => g2 (setF c k x) (by have := setF_gt (v := x) hg.2 hx.1; omega) (setF4 hc (by omega) hx.2)
      have T1 := T 1 (by omega)
      have T2 := T 2 (by omega)
      have T3 := T 3 (by omega)
      unfold mxW
      dsimp only
      omega
    have rb : 0 ≤ r ∧ r ≤ 1000001 := by
      rcases hr with ⟨_, z⟩ | ⟨z0, z⟩
      · omega
      · have := mb z0; omega
    refine ⟨⟨inR_of (by omega) (by omega), inR_of (by omega) (by omega), trivial⟩, ?_⟩
    rintro _ rfl
    refine hX3 _ ⟨by dsimp only; omega, by dsimp only; split <;> omega, ?_, fun k' hk' hg => ?_⟩ (by dsimp only; omega)
    · dsimp only
      by_cases z : w ≤ r
      · rw [if_pos z]; exact hw1
      · rw [if_neg z]
        rcases hr with ⟨_, z1⟩ | ⟨z0, z1⟩
        · omega
        · exact Or.inr ⟨k, by omega, z0, z1⟩
    · dsimp only at hk' ⊢
      by_cases z : k' = k
      · rw [z] at hg ⊢
        rcases hr with ⟨z0, z1⟩ | ⟨z0, z1⟩
        · exact absurd hg z0
        · split <;> omega
      · have := hw2 k' (by omega) hg
        split <;> omega
  · have p : 4 ^ k ≤ 4 ^ 5 := Nat.pow_le_pow_right (by decide) (by omega)
    have fl := fnd_lt (P := c) (i := k)
    have ml := msk_lt (c := c) (k := k) (by omega)
    rw [fnd_b (by omega) (by omega)]
    refine ⟨⟨inR_of (by omega) (by omega), trivial⟩, ?_⟩
    have eb : bshl 3 (2 * (k : Int)) = ((3 * 4 ^ k : Nat) : Int) := by
      have := bshl_n (a := 3) (k := 2 * k) (by omega) (by rw [← p4_2]; omega)
      rw [← p4_2] at this
      rw [show (2 * (k : Int)) = ((2 * k : Nat) : Int) by omega]
      exact this
    have e5 : (if (fnd c k : Int) = 0 then 0 else bshl 3 (2 * (k : Int)) : Int) = ((if fnd c k = 0 then 0 else 3 * 4 ^ k : Nat) : Int) := by
      by_cases z : fnd c k = 0
      · rw [if_pos (by omega), if_pos z]; rfl
      · rw [if_neg (by omega), if_neg z, eb]
    have l5 : (if fnd c k = 0 then 0 else 3 * 4 ^ k : Nat) < 4096 := by split <;> omega
    rw [e5, bor_n (by omega) (by omega), ← mskN_s]
    rintro _ rfl
    refine hX2 _ ⟨⟨by dsimp only; omega, by dsimp only; omega⟩, ?_⟩ (by dsimp only; omega)
    dsimp only
    rw [show ((k : Int) + 1).toNat = k + 1 by omega]
