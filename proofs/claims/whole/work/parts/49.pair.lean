-- bits
theorem bt_of (a : Nat) (ha : a < 4294967296) : (Int32.ofInt (a : Int)).toBitVec.toNat = a := by
  rw [Int32.toBitVec_ofInt, BitVec.toNat_ofInt]
  have : ((2 ^ 32 : Nat) : Int) = 4294967296 := by decide
  rw [this]
  omega
theorem bt_nat (x : Int32) (n : Nat) (e : x.toBitVec.toNat = n) (h : n < 2147483648) : x.toInt = (n : Int) := by
  have p : (2 ^ 32 : Nat) = 4294967296 := by decide
  rw [← Int32.toInt_toBitVec, BitVec.toInt_eq_toNat_of_lt (by rw [e]; omega), e]
theorem band_n {a b : Nat} (ha : a < 2147483648) (hb : b < 2147483648) : band a b = ((a &&& b : Nat) : Int) := by
  unfold band
  refine bt_nat _ _ ?_ (Nat.lt_of_le_of_lt Nat.and_le_left ha)
  rw [Int32.toBitVec_and, BitVec.toNat_and, bt_of a (by omega), bt_of b (by omega)]
theorem bor_n {a b : Nat} (ha : a < 2147483648) (hb : b < 2147483648) : bor a b = ((a ||| b : Nat) : Int) := by
  unfold bor
  refine bt_nat _ _ ?_ (Nat.or_lt_two_pow (n := 31) ha hb)
  rw [Int32.toBitVec_or, BitVec.toNat_or, bt_of a (by omega), bt_of b (by omega)]
theorem bt_sh (k : Nat) (hk : k < 32) : ((Int32.ofInt (k : Int) &&& 31).toBitVec.smod 32) = BitVec.ofNat 32 k := by
  have : ∀ k : Fin 32, ((Int32.ofInt ((k.val : Nat) : Int) &&& 31).toBitVec.smod 32) = BitVec.ofNat 32 k.val := by decide
  exact this ⟨k, hk⟩
theorem bshl_n {a k : Nat} (hk : k < 32) (ha : a * 2 ^ k < 2147483648) : bshl a k = ((a * 2 ^ k : Nat) : Int) := by
  unfold bshl
  refine bt_nat _ _ ?_ ha
  have ha' : a < 2147483648 := Nat.lt_of_le_of_lt (Nat.le_mul_of_pos_right a (Nat.two_pow_pos k)) ha
  rw [Int32.toBitVec_shiftLeft, bt_sh k hk, BitVec.shiftLeft_eq', BitVec.toNat_shiftLeft, bt_of a (by omega), BitVec.toNat_ofNat, Nat.mod_eq_of_lt (by omega : k < 2 ^ 32), Nat.shiftLeft_eq, Nat.mod_eq_of_lt (by omega)]
theorem bshr_n {a k : Nat} (hk : k < 32) (ha : a < 2147483648) : bshr a k = ((a / 2 ^ k : Nat) : Int) := by
  unfold bshr
  refine bt_nat _ _ ?_ (Nat.lt_of_le_of_lt (Nat.div_le_self _ _) ha)
  rw [Int32.toBitVec_shiftRight, bt_sh k hk, BitVec.sshiftRight_eq', BitVec.toNat_sshiftRight_of_msb_false ?_, bt_of a (by omega), BitVec.toNat_ofNat, Nat.mod_eq_of_lt (by omega : k < 2 ^ 32), Nat.shiftRight_eq_div_pow]
  rw [BitVec.msb_eq_false_iff_two_mul_lt, bt_of a (by omega)]
  omega
theorem fnd_b {P i : Nat} (hP : P < 2147483648) (hi : i < 16) : band (bshr P (2 * (i : Int))) 3 = (fnd P i : Int) := by
  have e : (2 * (i : Int)) = ((2 * i : Nat) : Int) := by omega
  rw [e, bshr_n (by omega) hP]
  have e3 : (3 : Int) = ((3 : Nat) : Int) := rfl
  rw [e3, band_n (Nat.lt_of_le_of_lt (Nat.div_le_self _ _) hP) (by decide)]
  unfold fnd
  rw [Nat.pow_mul, show (3 : Nat) = 2 ^ 2 - 1 from rfl, Nat.and_two_pow_sub_one_eq_mod]
theorem withF_all : (List.range 4096).all (fun P => (List.range 6).all (fun i => (List.range 3).all (fun v => bor (band P (bxor (bshl 3 (2 * i)) (-1))) (bshl (v + 1) (2 * i)) == (setF P i (v + 1) : Int)))) = true := by decide +kernel
theorem withF_b {P i v : Nat} (hP : P < 4096) (hi : i < 6) (hv' : 1 ≤ v ∧ v ≤ 3) : bor (band P (bxor (bshl 3 (2 * (i : Int))) (-1))) (bshl v (2 * (i : Int))) = (setF P i v : Int) := by
  have h := List.all_eq_true.mp (List.all_eq_true.mp (List.all_eq_true.mp withF_all P (List.mem_range.mpr hP)) i (List.mem_range.mpr hi)) (v - 1) (List.mem_range.mpr (by omega))
  have e : v - 1 + 1 = v := by omega
  rw [← e]
  exact eq_of_beq h
theorem six {p : Nat → Prop} {i : Nat} (hi : i < 6) (h0 : p 0) (h1 : p 1) (h2 : p 2) (h3 : p 3) (h4 : p 4) (h5 : p 5) : p i := by
  rcases (show i = 0 ∨ i = 1 ∨ i = 2 ∨ i = 3 ∨ i = 4 ∨ i = 5 by omega) with rfl | rfl | rfl | rfl | rfl | rfl <;> assumption
theorem fnd_set {P i j v : Nat} (hP : P < 4096) (hi : i < 6) (hj : j < 6) (hv' : v ≤ 3) : fnd (setF P i v) j = if j = i then v else fnd P j := by
  revert j
  refine six (p := fun i => ∀ {j : Nat}, j < 6 → fnd (setF P i v) j = if j = i then v else fnd P j) hi ?_ ?_ ?_ ?_ ?_ ?_ <;> (intro j hj; refine six (p := fun j => fnd (setF P _ v) j = if j = _ then v else fnd P j) hj ?_ ?_ ?_ ?_ ?_ ?_ <;> (unfold setF fnd; simp only [Nat.pow_zero, Nat.reducePow, Nat.reduceEqDiff, if_true, if_false]; omega))
theorem pcn0 : pcn 0 = 0 := rfl
theorem pcn1 : pcn 1 = 0 := rfl
theorem pcn2 : pcn 2 = 1 := rfl
theorem pcn3 : pcn 3 = 3 := rfl
theorem pcn4 : pcn 4 = 6 := rfl
theorem pcn_le {n : Int} (hn : 0 ≤ n ∧ n ≤ 4) : pcn n ≤ 6 := by
  rcases (show n = 0 ∨ n = 1 ∨ n = 2 ∨ n = 3 ∨ n = 4 by omega) with rfl | rfl | rfl | rfl | rfl <;> decide
theorem pow_pcn {n : Int} (hn : 0 ≤ n ∧ n ≤ 4) : 4 ^ pcn n ≤ 4096 := by
  rcases (show n = 0 ∨ n = 1 ∨ n = 2 ∨ n = 3 ∨ n = 4 by omega) with rfl | rfl | rfl | rfl | rfl <;> decide
theorem setF_lt {n : Int} {P i v : Nat} (hn : 0 ≤ n ∧ n ≤ 4) (hP : P < 4 ^ pcn n) (hi : i < pcn n) (hv' : v ≤ 3) : setF P i v < 4 ^ pcn n := by
  have h6 := pcn_le hn
  revert hP hi
  rcases (show n = 0 ∨ n = 1 ∨ n = 2 ∨ n = 3 ∨ n = 4 by omega) with rfl | rfl | rfl | rfl | rfl
  · rw [pcn0]; intro hP hi; omega
  · rw [pcn1]; intro hP hi; omega
  · rw [pcn2]; intro hP hi
    obtain rfl : i = 0 := by omega
    unfold setF fnd; simp only [Nat.pow_zero, Nat.reducePow] at hP ⊢; omega
  · rw [pcn3]; intro hP hi
    refine six (p := fun i => i < 3 → setF P i v < 4 ^ 3) (by omega) ?_ ?_ ?_ ?_ ?_ ?_ hi <;> (intro hi; unfold setF fnd; simp only [Nat.pow_zero, Nat.reducePow] at hP ⊢; omega)
  · rw [pcn4]; intro hP hi
    refine six (p := fun i => i < 6 → setF P i v < 4 ^ 6) (by omega) ?_ ?_ ?_ ?_ ?_ ?_ hi <;> (intro hi; unfold setF fnd; simp only [Nat.pow_zero, Nat.reducePow] at hP ⊢; omega)
/-- the class's number of a pair -/
def prI (x y : Int) : Nat := if max x y = 1 then 0 else if max x y = 2 then 1 + (min x y).toNat else 3 + (min x y).toNat
theorem prI_lt {n x y : Int} (hn : 0 ≤ n ∧ n ≤ 4) (hx : 0 ≤ x ∧ x < n) (hy : 0 ≤ y ∧ y < n) (hd : ¬ x = y) : prI x y < pcn n := by
  unfold prI
  rcases (show n = 0 ∨ n = 1 ∨ n = 2 ∨ n = 3 ∨ n = 4 by omega) with rfl | rfl | rfl | rfl | rfl
  · omega
  · omega
  · rw [pcn2]; split <;> (try split) <;> omega
  · rw [pcn3]; split <;> (try split) <;> omega
  · rw [pcn4]; split <;> (try split) <;> omega
theorem sp_pairOf {x y : Int} {h : aH} {Q : Int → Prop} (hx : 0 ≤ x ∧ x < 4) (hy : 0 ≤ y ∧ y < 4) (hd : ¬ x = y) (k : Q (prI x y : Int)) : wp_X8_pairOf x y h Q := by
  unfold wp_X8_pairOf
  refine ⟨inR_of (by omega) (by omega), inR_of (by omega) (by omega), ?_⟩
  rintro _ rfl
  rintro _ rfl
  have e : ((max x y * (max x y - 1) / 2 + min x y) = (prI x y : Int)) ∧ 0 ≤ max x y * (max x y - 1) ∧ max x y * (max x y - 1) < 2147483648 := by
    unfold prI
    rcases (show max x y = 1 ∨ max x y = 2 ∨ max x y = 3 by omega) with q | q | q
    · rw [q, if_pos rfl]; omega
    · rw [q, if_neg (by decide), if_pos rfl]; omega
    · rw [q, if_neg (by decide), if_neg (by decide)]; omega
  refine ⟨e.2, ?_⟩
  rw [e.1]
  exact k
theorem sp_pairOfM {x y : Int} {h : aH} {Q : Int → Prop} (hx : 0 ≤ x ∧ x < 4) (hy : 0 ≤ y ∧ y < 4) (hd : ¬ x = y) (k : Q (ppi (prI x y) : Int)) : wp_X9_pairOf x y h Q := by
  unfold wp_X9_pairOf
  have ix : inR x := inR_of (by omega) (by omega)
  have iy : inR y := inR_of (by omega) (by omega)
  refine ⟨⟨ix, iy, trivial⟩, ?_⟩
  rintro _ rfl
  refine ⟨⟨ix, iy, trivial⟩, ?_⟩
  rintro _ rfl
  refine ⟨⟨by split <;> assumption, trivial⟩, ?_⟩
  have e : (if (if y ≤ x then y else x) = 0 then (if y ≤ x then x else y) - 1 else (if y ≤ x then y else x) + (if y ≤ x then x else y) : Int) = (ppi (prI x y) : Int) := by
    unfold ppi prI
    by_cases q : y ≤ x
    · rw [if_pos q, if_pos q, show max x y = x by omega, show min x y = y by omega]
      repeat' split
      all_goals omega
    · rw [if_neg q, if_neg q, show max x y = y by omega, show min x y = x by omega]
      repeat' split
      all_goals omega
  rw [e]
  exact k
/-- what one knows of x and y -/
def VK (v : Nat) (x y : Int) : Int := if v = 0 then -9 else if v = 3 then 0 else if v = 1 then (if x < y then 1 else 2) else (if x < y then 2 else 1)
theorem sp_knownOf {x y n : Int} {h : aH} {Q : Int → Prop} (hn : 0 ≤ n ∧ n ≤ 4) (hP : 0 ≤ h 13 2 ∧ h 13 2 < ((4 ^ pcn n : Nat) : Int)) (hx : 0 ≤ x ∧ x < 4) (hy : 0 ≤ y ∧ y < 4) (hd : ¬ x = y) (k : Q (VK (fnd (h 13 2).toNat (prI x y)) x y)) : wp_X8_knownOf x y h Q := by
  unfold wp_X8_knownOf
  refine sp_pairOf hx hy hd ?_
  unfold wp_X8_foundOf
  have hp := pow_pcn hn
  obtain ⟨P, eP⟩ : ∃ P : Nat, h 13 2 = (P : Int) := ⟨(h 13 2).toNat, by omega⟩
  rw [eP] at hP k ⊢
  have hl : prI x y < 6 := by have := prI_lt (n := 4) (by omega) hx hy hd; rwa [pcn4] at this
  rw [fnd_b (by omega) (by omega)]
  rw [show ((P : Int)).toNat = P by omega] at k
  have b : fnd P (prI x y) < 4 := by unfold fnd; omega
  unfold VK at k
  generalize fnd P (prI x y) = v at k b
  refine ⟨inR_of (by omega) (by omega), fun q => ?_, fun q => ⟨fun q2 => ?_, fun q2 => ⟨⟨inR_of (by omega) (by omega), inR_of (by omega) (by omega), trivial⟩, ?_⟩⟩⟩
  · rwa [if_pos (by omega)] at k
  · rwa [if_neg (by omega), if_pos (by omega)] at k
  · rw [if_neg (by omega), if_neg (by omega)] at k
    have e : (if (if (v : Int) = 1 then 1 else 0 : Int) = (if y ≤ x then 0 else 1 : Int) then 1 else 2 : Int) = if v = 1 then (if x < y then 1 else 2) else (if x < y then 2 else 1) := by
      repeat' split
      all_goals omega
    rw [e]
    exact k
theorem S_known {c x y : Int} {h : aH} {K : aH → Prop} (i : Inv c h) (hx : inR x) (hy : inR y) (hK : ∀ h', Inv (c + 1) h' → K h') : wp_X8_known x y h (fun r => wp_X9_known x y h (fun r2 h2 => inR r ∧ inR r2 ∧ ((r = r2 → K h2) ∧ (¬ r = r2 → False)))) := by
  have il := i.2.1
  have im := i.2.2.1
  unfold wp_X8_known wp_X9_known
  refine sp_pair hx hy il.1 (fun r1 hr1 => ⟨fun h0 => ?_, fun h0 => ?_⟩)
  · rintro _ rfl
    exact sp_pairM hx hy il.1 (by rw [up_ne (by decide)]; exact il.2.2.1) (fun r2 hr2 => ⟨fun _ => fin_ok rfl (inR_of (by omega) (by omega)) (hK _ i.thr), fun q => by omega⟩)
  · have hn := il.1
    have bx : 0 ≤ x ∧ x < h 3 4 := by omega
    have by' : 0 ≤ y ∧ y < h 3 4 := by omega
    have bd : ¬ x = y := by omega
    refine sp_knownOf il.1 im.2.2.2.1 (by omega) (by omega) bd ?_
    rintro _ rfl
    refine sp_pairM hx hy il.1 (by rw [up_ne (by decide)]; exact il.2.2.1) (fun r2 hr2 => ⟨fun q => by omega, fun _ => ?_⟩)
    refine sp_pairOfM (by omega) (by omega) bd ?_
    have hl : prI x y < 6 := by have := prI_lt il.1 bx by' bd; have := pcn_le il.1; omega
    have m := im.2.2.2.2 (prI x y) hl
    have hp : ppi (prI x y) < 6 := by unfold ppi; split <;> (try split) <;> omega
    rw [up_ne (k' := 66) (by decide), m]
    have b : fnd (h 13 2).toNat (prI x y) < 4 := by unfold fnd; omega
    generalize fnd (h 13 2).toNat (prI x y) = v at b
    refine ⟨⟨by omega, by omega⟩, ?_⟩
    rintro _ rfl
    unfold VK cmc
    rcases (show v = 0 ∨ v = 1 ∨ v = 2 ∨ v = 3 by omega) with rfl | rfl | rfl | rfl
    · exact ⟨inR_of (by decide) (by decide), fun q => absurd q (by decide), fun _ => fin_ok rfl (show inR (-9) from inR_of (by decide) (by decide)) (hK _ i.thr)⟩
    · refine ⟨inR_of (by decide) (by decide), fun _ => ⟨hx, hy, fun q => ?_, fun q => ?_⟩, fun q => absurd (show (0 : Int) ≤ 1 by decide) q⟩
      · unfold wp_X9_turned
        refine ⟨⟨inR_of (by decide) (by decide), trivial⟩, fin_ok ?_ ?_ (hK _ i.thr)⟩
        · rw [if_neg (by decide), if_neg (by decide), if_pos rfl, if_neg (by omega)]; rfl
        · rw [if_neg (by decide), if_neg (by decide), if_pos rfl, if_neg (by omega)]; exact inR_of (by decide) (by decide)
      · refine fin_ok ?_ ?_ (hK _ i.thr)
        · rw [if_neg (by decide), if_neg (by decide), if_pos rfl, if_pos (by omega)]; rfl
        · rw [if_neg (by decide), if_neg (by decide), if_pos rfl, if_pos (by omega)]; exact inR_of (by decide) (by decide)
    · refine ⟨inR_of (by decide) (by decide), fun _ => ⟨hx, hy, fun q => ?_, fun q => ?_⟩, fun q => absurd (show (0 : Int) ≤ 2 by decide) q⟩
      · unfold wp_X9_turned
        refine ⟨⟨inR_of (by decide) (by decide), trivial⟩, fin_ok ?_ ?_ (hK _ i.thr)⟩
        · rw [if_neg (by decide), if_neg (by decide), if_neg (by decide), if_neg (by omega)]; rfl
        · rw [if_neg (by decide), if_neg (by decide), if_neg (by decide), if_neg (by omega)]; exact inR_of (by decide) (by decide)
      · refine fin_ok ?_ ?_ (hK _ i.thr)
        · rw [if_neg (by decide), if_neg (by decide), if_neg (by decide), if_pos (by omega)]; rfl
        · rw [if_neg (by decide), if_neg (by decide), if_neg (by decide), if_pos (by omega)]; exact inR_of (by decide) (by decide)
    · refine ⟨inR_of (by decide) (by decide), fun _ => ⟨hx, hy, fun q => ?_, fun q => ?_⟩, fun q => absurd (show (0 : Int) ≤ 0 by decide) q⟩
      · unfold wp_X9_turned
        exact ⟨⟨inR_of (by decide) (by decide), trivial⟩, fin_ok rfl (show inR 0 from inR_of (by decide) (by decide)) (hK _ i.thr)⟩
      · exact fin_ok rfl (show inR 0 from inR_of (by decide) (by decide)) (hK _ i.thr)
-- weighs
theorem S_weighs {c x y : Int} {h : aH} {K : aH → Prop} (i : Inv c h) (hx : inR x) (hy : inR y) (hK : ∀ h', Inv (c + 1) h' → K h') : wp_X8_weighs x y h (fun r h1 => wp_X9_weighs x y h1 (fun r2 h2 => inR r ∧ inR r2 ∧ ((r = r2 → K h2) ∧ (¬ r = r2 → False)))) := by
  obtain ⟨hn, hp, e1, e2, hw, hg, hb⟩ := i.2.1
  have im := i.2.2.1
  have iu := i.2.2.2.1
  have hs' : 0 ≤ h 59 18 ∧ h 59 18 ≤ 10 := by have := iu.2.1; have := iu.2.2.1; omega
  unfold wp_X8_weighs wp_X9_weighs
  refine sp_pair hx hy hn (fun r1 hr1 => ⟨fun h0 => ?_, fun h0 => sp_push iu.1 iu.2.1 (fun hp' pc => ?_)⟩)
  · rintro _ rfl
    exact sp_pairM hx hy hn (by rw [up_ne (by decide)]; exact e1) (fun r2 hr2 => ⟨fun _ => fin_ok rfl (inR_of (by omega) (by omega)) (hK _ i.thr), fun q => by omega⟩)
  · have bx : 0 ≤ x ∧ x < h 3 4 := by omega
    have by' : 0 ≤ y ∧ y < h 3 4 := by omega
    have bd : ¬ x = y := by omega
    have o : ∀ {k : Nat}, (k ≤ 14 ∨ k = 16 ∨ 37 ≤ k) → hp' k = h k := fun hk => pc_out pc iu.1 hk
    refine sp_pairOf (by omega) (by omega) bd ?_
    unfold wp_X8_compareLower
    have hf := fun j h0 h1 => (im.2.2.1 j h0 h1).2
    have hg' : ∀ j, 0 ≤ j → j < 16 → 0 ≤ h 6 j ∧ h 6 j ≤ 3 := fun j h0 h1 => by have := hg j h0 h1; omega
    refine ⟨hx, hy, sp_heavi (by omega) (by rw [o (by omega)]; exact hf) (by rw [o (by omega)]; exact hg') (sp_heavi (by omega) (by rw [o (by omega)]; exact hf) (by rw [o (by omega)]; exact hg') ?_)⟩
    rw [o (k := 4) (by omega), o (k := 14) (by omega), o (k := 13) (by omega)]
    rintro _ rfl
    have bl := hv_bd (p := min x y) (by omega) (fun j h0 h1 => (hw j h0 h1).2) hf
    have bh := hv_bd (p := max x y) (by omega) (fun j h0 h1 => (hw j h0 h1).2) hf
    have P0 := im.2.2.2.1
    have h4 := pow_pcn hn
    have hl := prI_lt hn bx by' bd
    have h6 := pcn_le hn
    have hl6 : prI x y < 6 := by omega
    -- what happens with a finding v
    have main : ∀ v : Nat, (1 ≤ v ∧ v ≤ 3) → ((v = 3 ∧ hv (h 4) (h 14) (min x y) = hv (h 4) (h 14) (max x y)) ∨ (v = 2 ∧ hv (h 4) (h 14) (min x y) < hv (h 4) (h 14) (max x y)) ∨ (v = 1 ∧ hv (h 4) (h 14) (max x y) < hv (h 4) (h 14) (min x y))) → wp_X8_withFound (h 13 2) (prI x y : Int) (v : Int) hp' (fun r6 => ∀ h7, h7 = up hp' 13 2 r6 → wp_X8_knownOf x y h7 (fun r => ∀ h1, h1 = up h7 59 0 0 → wp_X9_isPair x y h1 (fun r2 => ((r2 = 0 → (inR r ∧ inR (-1) ∧ ((r = -1 → K h1) ∧ (¬ r = -1 → False)))) ∧ (¬ r2 = 0 → wp_X9_notes h1 (fun h4 => wp_X9_heaviness x h4 (fun r5 => wp_X9_heaviness y h4 (fun r6 => ∀ x3_31, x3_31 = (r5 - r6) → (inR x3_31 ∧ True) ∧ ∀ x4_49, x4_49 = (if x3_31 ≤ 0 then (if 0 ≤ x3_31 then 0 else 2 : Int) else 1 : Int) → wp_X9_pairOf x y h4 (fun r10 => inR x ∧ inR y ∧ ((y ≤ x → wp_X9_turned x4_49 h4 (fun r13 => (0 ≤ (17 + r10) ∧ (17 + r10) < 23) ∧ ∀ h15, h15 = up h4 66 (17 + r10) (1 + r13) → (inR r ∧ inR x4_49 ∧ ((r = x4_49 → K h15) ∧ (¬ r = x4_49 → False))))) ∧ (¬ y ≤ x → (0 ≤ (17 + r10) ∧ (17 + r10) < 23) ∧ ∀ h17, h17 = up h4 66 (17 + r10) (1 + x4_49) → (inR r ∧ inR x4_49 ∧ ((r = x4_49 → K h17) ∧ (¬ r = x4_49 → False)))))))))))))) := by
      intro v bv hvv
      unfold wp_X8_withFound
      rintro _ rfl
      obtain ⟨P, eP⟩ : ∃ P : Nat, h 13 2 = (P : Int) := ⟨(h 13 2).toNat, by omega⟩
      rw [eP, withF_b (by omega) hl6 bv]
      rintro _ rfl
      have hP' : P < 4 ^ pcn (h 3 4) := by omega
      have sl := setF_lt (v := v) hn hP' hl bv.2
      have u13 : up hp' 13 2 (setF P (prI x y) v : Int) 13 2 = (setF P (prI x y) v : Int) := by rw [up_eq, if_pos rfl]
      refine sp_knownOf hn (by rw [u13]; omega) (by omega) (by omega) bd ?_
      rw [u13, show ((setF P (prI x y) v : Nat) : Int).toNat = setF P (prI x y) v by omega, fnd_set (by omega) hl6 hl6 bv.2, if_pos rfl]
      have g : ∀ k, k ≠ 13 → up hp' 13 2 (setF P (prI x y) v : Int) k = hp' k := fun k hk => up_ne hk
      rintro _ rfl
      refine sp_pairM hx hy hn (by rw [up_ne (by decide), g 61 (by decide), o (by omega)]; exact e1) (fun r2 hr2 => ⟨fun q => by omega, fun _ => sp_notes (by rw [thr59 (by decide), g 59 (by decide), o (by omega)]; exact hs') (fun m8 pm => ?_)⟩)
      refine sp_heavinessM (by omega) (sp_heavinessM (by omega) ?_)
      have f62 : m8 62 = h 62 := by rw [pm.1 62 (by decide) (by decide), up_ne (by decide), g 62 (by decide), o (by omega)]
      have f66 : m8 66 = h 66 := by rw [pm.1 66 (by decide) (by decide), up_ne (by decide), g 66 (by decide), o (by omega)]
      have hm : ∀ p, (0 ≤ p ∧ p < 4) → hv (m8 62) (fun j => m8 66 (1 + j)) p = hv (h 4) (h 14) p := fun p hp => by
        rw [f62, f66]
        exact hv_cong hp (fun j h0 h1 => (hw j h0 h1).1) (fun j h0 h1 => (im.2.2.1 j h0 h1).1)
      rw [hm x (by omega), hm y (by omega)]
      have b1 := hv_bd (p := x) (by omega) (fun j h0 h1 => (hw j h0 h1).2) hf
      have b2 := hv_bd (p := y) (by omega) (fun j h0 h1 => (hw j h0 h1).2) hf
      rintro _ rfl
      refine ⟨⟨inR_of (by omega) (by omega), trivial⟩, ?_⟩
      intro w hw4
      refine sp_pairOfM (by omega) (by omega) bd ?_
      have hpp : ppi (prI x y) < 6 := by unfold ppi; split <;> (try split) <;> omega
      -- the end
      have fin : ∀ t : Int, cmc v = 1 + t → VK v x y = w → inR (VK v x y) ∧ inR w ∧ ((VK v x y = w → K (up m8 66 (17 + (ppi (prI x y) : Int)) (1 + t))) ∧ (¬ VK v x y = w → False)) := by
        intro t ht hvk
        refine fin_ok hvk ?_ (hK _ (fin_act i pc (fun k k1 _ => g k k1) pm (fun k hk => up_ne hk) ?_))
        · unfold VK
          repeat' split
          all_goals exact inR_of (by decide) (by decide)
        · rw [u13, up_eq (h := hp'), if_neg (by decide), g 14 (by decide), o (k := 13) (by omega), o (k := 14) (by omega)]
          refine ⟨im.1, ?_, fun j j0 j1 => ?_, by omega, fun j hj => ?_⟩
          · rw [up_eq, if_neg (by omega), f66]; exact im.2.1
          · rw [up_eq, if_neg (by omega), f66]; exact im.2.2.1 j j0 j1
          · rw [up_eq, f66, show ((setF P (prI x y) v : Nat) : Int).toNat = setF P (prI x y) v by omega, fnd_set (by omega) hl6 hj bv.2]
            have mj := im.2.2.2.2 j hj
            rw [eP, show ((P : Nat) : Int).toNat = P by omega] at mj
            by_cases hji : j = prI x y
            · rw [if_pos (by rw [hji]), if_pos hji, ht]
            · have : ¬ ppi j = ppi (prI x y) := by
                unfold ppi
                repeat' split
                all_goals omega
              rw [if_neg (by omega), if_neg hji]
              exact mj
      refine ⟨hx, hy, fun q => ?_, fun q => ⟨⟨by omega, by omega⟩, ?_⟩⟩
      · rw [show min x y = y by omega, show max x y = x by omega] at hvv
        unfold wp_X9_turned
        have hw' : (v = 3 ∧ w = 0) ∨ (v = 2 ∧ w = 1) ∨ (v = 1 ∧ w = 2) := by
          rw [hw4]
          repeat' split
          all_goals omega
        refine ⟨⟨inR_of (by omega) (by omega), trivial⟩, ⟨by omega, by omega⟩, ?_⟩
        rintro _ rfl
        have nq : ¬ x < y := by omega
        refine fin _ ?_ ?_
        · rcases hw' with ⟨rfl, rfl⟩ | ⟨rfl, rfl⟩ | ⟨rfl, rfl⟩ <;> rfl
        · unfold VK
          rw [if_neg nq, if_neg nq]
          rcases hw' with ⟨rfl, rfl⟩ | ⟨rfl, rfl⟩ | ⟨rfl, rfl⟩ <;> rfl
      · rw [show min x y = x by omega, show max x y = y by omega] at hvv
        have hw' : (v = 3 ∧ w = 0) ∨ (v = 2 ∧ w = 2) ∨ (v = 1 ∧ w = 1) := by
          rw [hw4]
          repeat' split
          all_goals omega
        rintro _ rfl
        have nq : x < y := by omega
        refine fin _ ?_ ?_
        · rcases hw' with ⟨rfl, rfl⟩ | ⟨rfl, rfl⟩ | ⟨rfl, rfl⟩ <;> rfl
        · unfold VK
          rw [if_pos nq, if_pos nq]
          rcases hw' with ⟨rfl, rfl⟩ | ⟨rfl, rfl⟩ | ⟨rfl, rfl⟩ <;> rfl
    refine ⟨inR_of (by omega) (by omega), fun q => main 3 (by omega) (by omega), fun q => ?_⟩
    by_cases q2 : hv (h 4) (h 14) (min x y) - hv (h 4) (h 14) (max x y) ≤ 0
    · rw [if_pos q2]; exact main 2 (by omega) (by omega)
    · rw [if_neg q2]; exact main 1 (by omega) (by omega)
-- forgets
theorem sp_knownPairs {n : Int} {h : aH} {Q : Int → Prop} (hn : 0 ≤ n ∧ n ≤ 4) (hP : 0 ≤ h 13 2 ∧ h 13 2 < ((4 ^ pcn n : Nat) : Int)) (k : Q (ctN (fun i => decide (fnd (h 13 2).toNat i ≠ 0)) 6 : Nat)) : wp_X8_knownPairs h Q := by
  unfold wp_X8_knownPairs
  have hp := pow_pcn hn
  obtain ⟨P, eP⟩ : ∃ P : Nat, h 13 2 = (P : Int) := ⟨(h 13 2).toNat, by omega⟩
  rw [eP] at hP k
  rw [show ((P : Nat) : Int).toNat = P by omega] at k
  refine lp.rule (μ := fun y => (7 - y.2).toNat) (I := fun y => (0 ≤ y.2 ∧ y.2 ≤ 6) ∧ y.1 = ((ctN (fun i => decide (fnd P i ≠ 0)) y.2.toNat : Nat) : Int)) ?_ (0, 0) ⟨⟨by omega, by dsimp only; omega⟩, rfl⟩
  rintro X ⟨s, t⟩ ⟨⟨t0, t1⟩, hs⟩ hX
  dsimp only at t0 t1 hs ⊢
  unfold wp_X8_knownPairs_B4 wp_X8_foundOf
  obtain ⟨u, rfl⟩ : ∃ u : Nat, t = (u : Int) := ⟨t.toNat, by omega⟩
  rw [show ((u : Nat) : Int).toNat = u by omega] at hs
  refine ⟨inR_of (by omega) (by omega), fun q => ?_, fun q => ?_⟩
  · rw [hs, show u = 6 by omega]; exact k
  · rw [eP, fnd_b (by omega) (by omega)]
    have b : fnd P u < 4 := by unfold fnd; omega
    refine ⟨⟨inR_of (by omega) (by omega), trivial⟩, hX _ ⟨⟨by dsimp only; omega, by dsimp only; omega⟩, ?_⟩ (by dsimp only; omega)⟩
    dsimp only
    rw [show ((u : Int) + 1).toNat = u + 1 by omega]
    unfold ctN
    rw [hs]
    by_cases q2 : fnd P u = 0
    · rw [if_pos (by omega), if_neg (by simpa using q2)]; rfl
    · rw [if_neg (by omega), if_pos (by simpa using q2)]; rfl
theorem sp_knownMany {h : aH} {Q : Int → Prop} (hb : ∀ i, 0 ≤ i → i < 6 → 0 ≤ h 66 (17 + i) ∧ h 66 (17 + i) ≤ 3) (k : Q (ctN (fun i => decide (0 < h 66 (17 + (i : Int)))) 6 : Nat)) : wp_X9_knownMany h Q := by
  unfold wp_X9_knownMany
  refine lp.rule (μ := fun y => (7 - y.2).toNat) (I := fun y => (0 ≤ y.2 ∧ y.2 ≤ 6) ∧ y.1 = ((ctN (fun i => decide (0 < h 66 (17 + (i : Int)))) y.2.toNat : Nat) : Int)) ?_ (0, 0) ⟨⟨by omega, by dsimp only; omega⟩, rfl⟩
  rintro X ⟨s, t⟩ ⟨⟨t0, t1⟩, hs⟩ hX
  dsimp only at t0 t1 hs ⊢
  unfold wp_X9_knownMany_B4
  obtain ⟨u, rfl⟩ : ∃ u : Nat, t = (u : Int) := ⟨t.toNat, by omega⟩
  rw [show ((u : Nat) : Int).toNat = u by omega] at hs
  refine ⟨inR_of (by omega) (by omega), fun q => ?_, fun q => ?_⟩
  · rw [hs, show u = 6 by omega]; exact k
  · have b := hb u (by omega) (by omega)
    refine ⟨⟨by omega, by omega⟩, ⟨inR_of (by omega) (by omega), trivial⟩, ?_⟩
    rintro _ rfl
    refine hX _ ⟨⟨by dsimp only; omega, by dsimp only; omega⟩, ?_⟩ (by dsimp only; omega)
    dsimp only
    rw [show ((u : Int) + 1).toNat = u + 1 by omega]
    unfold ctN
    rw [hs]
    by_cases q2 : h 66 (17 + (u : Int)) ≤ 0
    · rw [if_pos q2, if_neg (by simpa using q2)]; rfl
    · rw [if_neg q2, if_pos (by simpa using q2)]; rfl
theorem ctN_le (p : Nat → Bool) : ∀ k, ctN p k ≤ k
  | 0 => Nat.le_refl 0
  | k + 1 => by
    have := ctN_le p k
    unfold ctN
    split <;> omega
theorem MR.known {n d p : Int} {f s : Int → Int} (m : MR n d p f s) : ctN (fun i => decide (0 < s (17 + (i : Int)))) 6 = ctN (fun i => decide (fnd p.toNat i ≠ 0)) 6 := by
  have e : ∀ i, i < 6 → decide (0 < s (17 + (ppi i : Int))) = decide (fnd p.toNat i ≠ 0) := fun i hi => by
    rw [m.2.2.2.2 i hi]
    have b : fnd p.toNat i < 4 := by unfold fnd; omega
    generalize fnd p.toNat i = v at b
    unfold cmc
    rcases (show v = 0 ∨ v = 1 ∨ v = 2 ∨ v = 3 by omega) with rfl | rfl | rfl | rfl <;> rfl
  have e0 : decide (0 < s (17 + ((0 : Nat) : Int))) = decide (fnd p.toNat 0 ≠ 0) := e 0 (by decide)
  have e1 : decide (0 < s (17 + ((1 : Nat) : Int))) = decide (fnd p.toNat 1 ≠ 0) := e 1 (by decide)
  have e2 : decide (0 < s (17 + ((3 : Nat) : Int))) = decide (fnd p.toNat 2 ≠ 0) := e 2 (by decide)
  have e3 : decide (0 < s (17 + ((2 : Nat) : Int))) = decide (fnd p.toNat 3 ≠ 0) := e 3 (by decide)
  have e4 : decide (0 < s (17 + ((4 : Nat) : Int))) = decide (fnd p.toNat 4 ≠ 0) := e 4 (by decide)
  have e5 : decide (0 < s (17 + ((5 : Nat) : Int))) = decide (fnd p.toNat 5 ≠ 0) := e 5 (by decide)
  unfold ctN ctN ctN ctN ctN ctN ctN
  rw [e0, e1, e2, e3, e4, e5]
  omega
theorem MR.kb {n d p : Int} {f s : Int → Int} (m : MR n d p f s) : ∀ i, 0 ≤ i → i < 6 → 0 ≤ s (17 + i) ∧ s (17 + i) ≤ 3 := fun i i0 i1 => by
  obtain ⟨u, rfl⟩ : ∃ u : Nat, i = (u : Int) := ⟨i.toNat, by omega⟩
  have e : ppi (ppi u) = u := by unfold ppi; repeat' split
                                 all_goals omega
  have := m.2.2.2.2 (ppi u) (by unfold ppi; split <;> (try split) <;> omega)
  rw [e] at this
  rw [this]
  unfold cmc
  repeat' split
  all_goals omega
theorem S_forgets {c : Int} {h : aH} {K : aH → Prop} (i : Inv c h) (hK : ∀ h', Inv (c + 1) h' → K h') : wp_X8_forgets h (fun r h1 => wp_X9_forgets h1 (fun r2 h2 => inR r ∧ inR r2 ∧ ((r = r2 → K h2) ∧ (¬ r = r2 → False)))) := by
  obtain ⟨hn, hp, e1, e2, hw, hg, hb⟩ := i.2.1
  have im := i.2.2.1
  have iu := i.2.2.2.1
  have hs' : 0 ≤ h 59 18 ∧ h 59 18 ≤ 10 := by have := iu.2.1; have := iu.2.2.1; omega
  unfold wp_X8_forgets wp_X9_forgets
  refine sp_knownPairs hn im.2.2.2.1 (sp_push iu.1 iu.2.1 (fun hp' pc => ?_))
  have o : ∀ {k : Nat}, (k ≤ 14 ∨ k = 16 ∨ 37 ≤ k) → hp' k = h k := fun hk => pc_out pc iu.1 hk
  rintro _ rfl
  rintro _ rfl
  have g : ∀ k, k ≠ 13 → up hp' 13 2 0 k = hp' k := fun k hk => up_ne hk
  refine sp_notes (by rw [thr59 (by decide), g 59 (by decide), o (by omega)]; exact hs') (fun m8 pm => ?_)
  have f66 : m8 66 = h 66 := by rw [pm.1 66 (by decide) (by decide), up_ne (by decide), g 66 (by decide), o (by omega)]
  refine sp_knownMany (by rw [f66]; exact im.kb) ?_
  rw [f66, im.known]
  refine lp.rule (μ := fun y => (7 - y.1).toNat) (I := fun y => (0 ≤ y.1 ∧ y.1 ≤ 6) ∧ (∀ k, k ≠ 66 → y.2 k = m8 k) ∧ (∀ j : Int, j < 17 → y.2 66 j = h 66 j) ∧ ∀ j : Int, 0 ≤ j → j < y.1 → y.2 66 (17 + j) = 0) ?_ (0, m8) ⟨⟨by omega, by dsimp only; omega⟩, fun _ _ => rfl, fun j hj => by dsimp only; rw [f66], fun j j0 j1 => absurd (show j < 0 from j1) (by omega)⟩
  rintro X ⟨t, f⟩ ⟨⟨t0, t1⟩, f1, f2, f3⟩ hX
  dsimp only at t0 t1 f1 f2 f3 ⊢
  unfold wp_X9_forgets_B16
  refine ⟨inR_of (by omega) (by omega), fun q => ?_, fun q => ⟨⟨by omega, by omega⟩, ?_⟩⟩
  · have bd : ctN (fun i => decide (fnd (h 13 2).toNat i ≠ 0)) 6 ≤ 6 := ctN_le _ _
    refine fin_ok rfl (inR_of (by omega) (by omega)) (hK _ (fin_act i pc (fun k k1 _ => g k k1) pm f1 ?_))
    rw [up_eq, if_neg (by decide), up_eq, if_pos rfl, g 14 (by decide), o (k := 13) (by omega), o (k := 14) (by omega)]
    refine ⟨im.1, by rw [f2 0 (by omega)]; exact im.2.1, fun j j0 j1 => by rw [f2 _ (by omega)]; exact im.2.2.1 j j0 j1, ⟨by omega, by have := Nat.pow_pos (n := pcn (h 3 4)) (show 0 < 4 by decide); omega⟩, fun j hj => ?_⟩
    rw [f3 _ (by omega) (by unfold ppi; split <;> (try split) <;> omega)]
    have : fnd (0 : Int).toNat j = 0 := by unfold fnd; simp
    rw [this]
    rfl
  · rintro _ rfl
    refine hX _ ⟨⟨by dsimp only; omega, by dsimp only; omega⟩, fun k hk => ?_, fun j hj => ?_, fun j j0 j1 => ?_⟩ (by dsimp only; omega)
    · dsimp only; rw [up_ne hk, f1 k hk]
    · dsimp only; rw [up_eq, if_neg (by omega), f2 j hj]
    · dsimp only at j1 ⊢
      rw [up_eq]
      by_cases hj : j = t
      · rw [if_pos (by omega)]
      · rw [if_neg (by omega)]; exact f3 j j0 (by omega)
