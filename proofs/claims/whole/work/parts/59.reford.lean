-- the reference's orders
theorem bxor_n {a b : Nat} (ha : a < 2147483648) (hb : b < 2147483648) : bxor a b = ((a ^^^ b : Nat) : Int) := by
  unfold bxor
  refine bt_nat _ _ ?_ (Nat.xor_lt_two_pow (n := 31) ha hb)
  rw [Int32.toBitVec_xor, BitVec.toNat_xor, bt_of a (by omega), bt_of b (by omega)]
theorem spM_lower {k : Nat} {h : aH} {Q : Int → Prop} (hk : k < 6) (kk : Q (lo6 k : Int)) : wp_X9_lowerOf k h Q := by
  unfold wp_X9_lowerOf
  refine ⟨⟨inR_of (by omega) (by omega), trivial⟩, ?_⟩
  have e : (if 3 ≤ (k : Int) then (if 5 ≤ (k : Int) then 2 else 1 : Int) else 0 : Int) = (lo6 k : Int) := six (p := fun k => (if 3 ≤ (k : Int) then (if 5 ≤ (k : Int) then 2 else 1 : Int) else 0 : Int) = (lo6 k : Int)) hk (by decide) (by decide) (by decide) (by decide) (by decide) (by decide)
  rw [e]
  exact kk
theorem spM_upper {k : Nat} {h : aH} {Q : Int → Prop} (hk : k < 6) (kk : Q (up6 k : Int)) : wp_X9_upperOf k h Q := by
  unfold wp_X9_upperOf
  refine ⟨⟨inR_of (by omega) (by omega), trivial⟩, ?_⟩
  have e : (if 3 ≤ (k : Int) then (if 5 ≤ (k : Int) then 3 else ((k : Int) - 1) : Int) else ((k : Int) + 1) : Int) = (up6 k : Int) := six (p := fun k => (if 3 ≤ (k : Int) then (if 5 ≤ (k : Int) then 3 else ((k : Int) - 1) : Int) else ((k : Int) + 1) : Int) = (up6 k : Int)) hk (by decide) (by decide) (by decide) (by decide) (by decide) (by decide)
  rw [e]
  exact kk
theorem up6_le {k : Nat} (hk : k < 6) : up6 k ≤ 3 ∧ lo6 k < up6 k := six (p := fun k => up6 k ≤ 3 ∧ lo6 k < up6 k) hk (by decide) (by decide) (by decide) (by decide) (by decide) (by decide)
theorem spM_pairNo {k : Nat} {n : Int} {h : aH} {Q : Int → Prop} (hk : k < 6) (hn : 0 ≤ n ∧ n ≤ 4) (e : h 61 0 = n) (kk : ∀ r, ((r = 1 ∧ up6 k < n.toNat) ∨ (r = 0 ∧ ¬ up6 k < n.toNat)) → Q r) : wp_X9_isPairNumber k h Q := by
  unfold wp_X9_isPairNumber
  have u := up6_le hk
  refine spM_upper hk ⟨⟨inR_of (by omega) (by omega), by rw [e]; exact inR_of (by omega) (by omega), trivial⟩, kk _ ?_⟩
  rw [e]
  by_cases q : n ≤ (up6 k : Int)
  · rw [if_pos q]; exact Or.inr ⟨rfl, by omega⟩
  · rw [if_neg q]; exact Or.inl ⟨rfl, by omega⟩
theorem rkN_s {n v k : Nat} : rkN n v (k + 1) = rkN n v k ||| (if k < n then 2 ^ fnd v k else 0) := rfl
theorem spN_s {n v k : Nat} : spN n v (k + 1) = spN n v k ||| (if k < n then 0 else fnd v k) := rfl
theorem cdN_s {n v k : Nat} : cdN n v (k + 1) = cdN n v k ||| (if up6 k < n then shw (fnd v (lo6 k)) (fnd v (up6 k)) * 4 ^ k else 0) := rfl
theorem two_fnd {v k : Nat} : 2 ^ fnd v k < 16 := by
  have := fnd_lt (P := v) (i := k)
  rcases (show fnd v k = 0 ∨ fnd v k = 1 ∨ fnd v k = 2 ∨ fnd v k = 3 by omega) with e | e | e | e <;> rw [e] <;> decide
theorem rk_lt {n v : Nat} : ∀ {k : Nat}, rkN n v k < 16
  | 0 => by show (0 : Nat) < 16; decide
  | k + 1 => by
    rw [rkN_s]
    refine Nat.or_lt_two_pow (n := 4) rk_lt ?_
    split
    · exact two_fnd
    · decide
theorem sp_lt {n v : Nat} : ∀ {k : Nat}, spN n v k < 4
  | 0 => by show (0 : Nat) < 4; decide
  | k + 1 => by
    rw [spN_s]
    refine Nat.or_lt_two_pow (n := 2) sp_lt ?_
    split
    · decide
    · exact fnd_lt
theorem ok75 : ∀ n : Fin 5, ctN (okV n.val) 256 ≤ 75 := by decide +kernel
theorem spM_ranks {n : Int} {v : Nat} {X14 : Int × aH → Prop} {g : aH} (hn : 0 ≤ n ∧ n ≤ 4) (hv' : v < 256) (kk : okV n.toNat v = true → lp (fun X y => wp_X9_orders_B106 X14 v g X y.1 y.2) (0, 0)) (kn : okV n.toNat v = false → X14 ((v : Int) + 1, g)) : lp (fun X y => wp_X9_orders_B29 n X14 v g X y.1 y.2.1 y.2.2) (0, 0, 0) := by
  refine lp.rule (μ := fun z => (5 - z.2.2).toNat) (I := fun z => (0 ≤ z.2.2 ∧ z.2.2 ≤ 4) ∧ z.1 = (rkN n.toNat v z.2.2.toNat : Int) ∧ z.2.1 = (spN n.toNat v z.2.2.toNat : Int)) ?_ (0, 0, 0) ⟨⟨by dsimp only; omega, by dsimp only; omega⟩, rfl, rfl⟩
  rintro X ⟨r, s, t⟩ ⟨t0, hr, hs⟩ hX
  dsimp only at t0 hr hs ⊢
  obtain ⟨k, rfl⟩ : ∃ k : Nat, t = (k : Int) := ⟨t.toNat, by omega⟩
  rw [show ((k : Nat) : Int).toNat = k by omega] at hr hs
  subst hr hs
  unfold wp_X9_orders_B29 wp_X9_orders_J216
  have b1 := rk_lt (n := n.toNat) (v := v) (k := k)
  have b2 := sp_lt (n := n.toNat) (v := v) (k := k)
  refine ⟨inR_of (by omega) (by omega), fun q => ⟨inR_of (by omega) (by omega), fun q2 => ?_, fun q2 => kn ?_⟩, fun q => ⟨⟨inR_of (by omega) (by omega), trivial⟩, ?_⟩⟩
  · have e4 : k = 4 := by omega
    subst e4
    have e1 : ((rkN n.toNat v 4 : Int) + 1) = ((rkN n.toNat v 4 + 1 : Nat) : Int) := by omega
    rw [e1, band_n (by omega) (by omega)]
    have ale : rkN n.toNat v 4 &&& (rkN n.toNat v 4 + 1) ≤ rkN n.toNat v 4 := Nat.and_le_left
    refine ⟨inR_of (by omega) (by omega), fun q3 => kk ?_, fun q3 => kn ?_⟩
    · unfold okV
      rw [Bool.and_eq_true, decide_eq_true_iff, decide_eq_true_iff]
      exact ⟨by omega, by omega⟩
    · unfold okV
      rw [← Bool.not_eq_true, Bool.and_eq_true, decide_eq_true_iff, decide_eq_true_iff]
      exact fun z => q3 (by omega)
  · have e4 : k = 4 := by omega
    subst e4
    unfold okV
    rw [← Bool.not_eq_true, Bool.and_eq_true, decide_eq_true_iff, decide_eq_true_iff]
    exact fun z => q2 (by omega)
  · have fl := fnd_lt (P := v) (i := k)
    have tf := two_fnd (v := v) (k := k)
    rw [fnd_b (by omega) (by omega)]
    have eb : bshl 1 (fnd v k : Int) = ((2 ^ fnd v k : Nat) : Int) := bshl_1 (p := fnd v k) (by omega)
    rw [eb]
    have e1 : (if n ≤ (k : Int) then 0 else ((2 ^ fnd v k : Nat) : Int) : Int) = ((if k < n.toNat then 2 ^ fnd v k else 0 : Nat) : Int) := by
      by_cases z : n ≤ (k : Int)
      · rw [if_pos z, if_neg (by omega)]; rfl
      · rw [if_neg z, if_pos (by omega)]
    have e2 : (if n ≤ (k : Int) then (fnd v k : Int) else 0 : Int) = ((if k < n.toNat then 0 else fnd v k : Nat) : Int) := by
      by_cases z : n ≤ (k : Int)
      · rw [if_pos z, if_neg (by omega)]
      · rw [if_neg z, if_pos (by omega)]; rfl
    have l1 : (if k < n.toNat then 2 ^ fnd v k else 0 : Nat) < 16 := by split <;> omega
    have l2 : (if k < n.toNat then 0 else fnd v k : Nat) < 4 := by split <;> omega
    rw [e1, bor_n (by omega) (by omega), ← rkN_s]
    rintro _ rfl
    refine ⟨⟨inR_of (by omega) (by omega), trivial⟩, ?_⟩
    rw [e2, bor_n (by omega) (by omega), ← spN_s]
    rintro _ rfl
    have e3 : ((k : Int) + 1).toNat = k + 1 := by omega
    exact hX _ ⟨⟨by dsimp only; omega, by dsimp only; omega⟩, by dsimp only; rw [e3], by dsimp only; rw [e3]⟩ (by dsimp only; omega)
theorem spM_code {n : Int} {v : Nat} {X14 : Int × aH → Prop} {g : aH} (hn : 0 ≤ n ∧ n ≤ 4) (e : g 61 0 = n) (hv' : v < 256) (h75 : 0 ≤ g 59 27 ∧ g 59 27 < 75) (kk : X14 ((v : Int) + 1, up (up g 75 (g 59 27) (cdN n.toNat v 6 : Int)) 59 27 (g 59 27 + 1))) : lp (fun X y => wp_X9_orders_B106 X14 v g X y.1 y.2) (0, 0) := by
  refine lp.rule (μ := fun z => (7 - z.2).toNat) (I := fun z => (0 ≤ z.2 ∧ z.2 ≤ 6) ∧ z.1 = (cdN n.toNat v z.2.toNat : Int)) ?_ (0, 0) ⟨⟨by dsimp only; omega, by dsimp only; omega⟩, rfl⟩
  rintro X ⟨r, t⟩ ⟨t0, hr⟩ hX
  dsimp only at t0 hr ⊢
  obtain ⟨k, rfl⟩ : ∃ k : Nat, t = (k : Int) := ⟨t.toNat, by omega⟩
  rw [show ((k : Nat) : Int).toNat = k by omega] at hr
  subst hr
  unfold wp_X9_orders_B106 wp_X9_orders_J216
  refine ⟨inR_of (by omega) (by omega), fun q => ⟨h75, ?_⟩, fun q => ?_⟩
  · have e6 : k = 6 := by omega
    subst e6
    rintro _ rfl
    rintro _ rfl
    rw [up_ne (k' := 59) (by decide)]
    exact kk
  · have u := up6_le (k := k) (by omega)
    refine spM_lower (by omega) ?_
    rw [fnd_b (by omega) (by omega)]
    rintro _ rfl
    refine spM_upper (by omega) ?_
    rw [fnd_b (by omega) (by omega)]
    rintro _ rfl
    have fa := fnd_lt (P := v) (i := lo6 k)
    have fb := fnd_lt (P := v) (i := up6 k)
    refine ⟨⟨inR_of (by omega) (by omega), inR_of (by omega) (by omega), trivial⟩, ?_⟩
    have es : (if (fnd v (lo6 k) : Int) ≤ (fnd v (up6 k) : Int) then (if (fnd v (up6 k) : Int) ≤ (fnd v (lo6 k) : Int) then 1 else 3 : Int) else 2 : Int) = (shw (fnd v (lo6 k)) (fnd v (up6 k)) : Int) := by
      unfold shw
      by_cases z : fnd v (lo6 k) ≤ fnd v (up6 k)
      · rw [if_pos (show (fnd v (lo6 k) : Int) ≤ (fnd v (up6 k) : Int) by omega), if_pos z]
        by_cases z2 : fnd v (up6 k) ≤ fnd v (lo6 k)
        · rw [if_pos (show (fnd v (up6 k) : Int) ≤ (fnd v (lo6 k) : Int) by omega), if_pos z2]; rfl
        · rw [if_neg (show ¬ (fnd v (up6 k) : Int) ≤ (fnd v (lo6 k) : Int) by omega), if_neg z2]; rfl
      · rw [if_neg (show ¬ (fnd v (lo6 k) : Int) ≤ (fnd v (up6 k) : Int) by omega), if_neg z]; rfl
    rw [es]
    rintro _ rfl
    have sr := shw_rng (a := fnd v (lo6 k)) (b := fnd v (up6 k))
    have p : 4 ^ k ≤ 4 ^ 5 := Nat.pow_le_pow_right (by decide) (by omega)
    have mb := Nat.mul_le_mul sr.2 p
    have eb : bshl (shw (fnd v (lo6 k)) (fnd v (up6 k)) : Int) (2 * (k : Int)) = ((shw (fnd v (lo6 k)) (fnd v (up6 k)) * 4 ^ k : Nat) : Int) := by
      rw [show (2 * (k : Int)) = ((2 * k : Nat) : Int) by omega, bshl_n (by omega) (by rw [← p4_2]; omega), ← p4_2]
    have cl := cd_lt (n := n.toNat) (v := v) (k := k) (by omega)
    have cl2 := cd_lt (n := n.toNat) (v := v) (k := k + 1) (by omega)
    refine spM_pairNo (by omega) hn e (fun r16 h16 => ?_)
    have e5 : (if r16 = 0 then 0 else bshl (shw (fnd v (lo6 k)) (fnd v (up6 k)) : Int) (2 * (k : Int)) : Int) = ((if up6 k < n.toNat then shw (fnd v (lo6 k)) (fnd v (up6 k)) * 4 ^ k else 0 : Nat) : Int) := by
      rcases h16 with ⟨z, z2⟩ | ⟨z, z2⟩
      · rw [if_neg (by omega), if_pos z2, eb]
      · rw [if_pos z, if_neg z2]; rfl
    have l5 : (if up6 k < n.toNat then shw (fnd v (lo6 k)) (fnd v (up6 k)) * 4 ^ k else 0 : Nat) < 4096 := by
      split
      · omega
      · decide
    rw [e5, bor_n (by omega) (by omega), ← cdN_s]
    rintro _ rfl
    have e3 : ((k : Int) + 1).toNat = k + 1 := by omega
    exact hX _ ⟨⟨by dsimp only; omega, by dsimp only; omega⟩, by dsimp only; rw [e3]⟩ (by dsimp only; omega)
theorem spM_orders {n : Int} {h : aH} {Q : aH → Prop} (hn : 0 ≤ n ∧ n ≤ 4) (e : h 61 0 = n) (kk : ∀ g : aH, (∀ c, c ≠ 59 → c ≠ 75 → g c = h c) → (∀ j : Int, ¬ j = 27 → g 59 j = h 59 j) → g 59 27 = (ctN (okV n.toNat) 256 : Int) → (∀ v, v < 256 → okV n.toNat v = true → g 75 (ctN (okV n.toNat) v : Int) = (cdN n.toNat v 6 : Int)) → Q g) : wp_X9_orders h Q := by
  unfold wp_X9_orders
  rintro _ rfl
  rw [up_ne (k' := 61) (by decide), e]
  intro x1 ex
  rw [ex]
  clear ex x1
  have o75 := ok75 ⟨n.toNat, by omega⟩
  dsimp only at o75
  refine lp.rule (σ := Int × aH) (μ := fun z => (257 - z.1).toNat) (I := fun z => (0 ≤ z.1 ∧ z.1 ≤ 256) ∧ (∀ c, c ≠ 59 → c ≠ 75 → z.2 c = h c) ∧ (∀ j : Int, ¬ j = 27 → z.2 59 j = h 59 j) ∧ z.2 59 27 = (ctN (okV n.toNat) z.1.toNat : Int) ∧ ∀ v : Nat, (v : Int) < z.1 → okV n.toNat v = true → z.2 75 (ctN (okV n.toNat) v : Int) = (cdN n.toNat v 6 : Int)) ?_ (0, up h 59 27 0) ⟨⟨by dsimp only; omega, by dsimp only; omega⟩, fun c c1 c2 => up_ne c1, fun j hj => by dsimp only; rw [up_eq, if_neg hj], by dsimp only; rw [up_eq, if_pos rfl]; rfl, fun v hv' => by dsimp only at hv'; omega⟩
  rintro X ⟨t, g⟩ ⟨t0, g1, g2, g3, g4⟩ hX
  dsimp only at t0 g1 g2 g3 g4 ⊢
  obtain ⟨v, rfl⟩ : ∃ v : Nat, t = (v : Int) := ⟨t.toNat, by omega⟩
  rw [show ((v : Nat) : Int).toNat = v by omega] at g3
  unfold wp_X9_orders_B14
  have e1 : ((v : Int) + 1).toNat = v + 1 := by omega
  refine ⟨inR_of (by omega) (by omega), fun q => ?_, fun q => spM_ranks hn (by omega) (fun ok => ?_) (fun ok => ?_)⟩
  · have e6 : v = 256 := by omega
    subst e6
    exact kk g g1 g2 g3 (fun v hv' => g4 v (by omega))
  · have c1 : ctN (okV n.toNat) (v + 1) = ctN (okV n.toNat) v + 1 := by rw [ctN_s, ok]; rfl
    have c2 := ctN_mono (p := okV n.toNat) (m := 256) (k := v + 1) (by omega)
    refine spM_code hn (by rw [g1 61 (by decide) (by decide)]; exact e) (by omega) (by omega) (hX _ ⟨⟨by dsimp only; omega, by dsimp only; omega⟩, fun c c1 c2 => by dsimp only; rw [up_ne c1, up_ne c2, g1 c c1 c2], fun j hj => by dsimp only; rw [up_eq, if_neg hj, up_ne (by decide)]; exact g2 j hj, ?_, fun w hw ow => ?_⟩ (by dsimp only; omega))
    · dsimp only; rw [up_eq, if_pos rfl, e1, c1, g3]; rfl
    · dsimp only at hw ⊢
      rw [up_ne (by decide), up_eq, g3]
      by_cases z : w = v
      · rw [z, if_pos rfl]
      · have c3 := ctN_mono (p := okV n.toNat) (m := v) (k := w + 1) (by omega)
        have c4 : ctN (okV n.toNat) (w + 1) = ctN (okV n.toNat) w + 1 := by rw [ctN_s, ow]; rfl
        rw [if_neg (by omega)]
        exact g4 w (by omega) ow
  · have c1 : ctN (okV n.toNat) (v + 1) = ctN (okV n.toNat) v := by rw [ctN_s, ok]; rfl
    refine hX _ ⟨⟨by dsimp only; omega, by dsimp only; omega⟩, g1, g2, ?_, fun w hw ow => ?_⟩ (by dsimp only; omega)
    · dsimp only; rw [e1, c1, g3]
    · dsimp only at hw ⊢
      by_cases z : w = v
      · rw [z, ok] at ow; cases ow
      · exact g4 w (by omega) ow
-- how many of them are left
def mskN (c : Nat) : Nat → Nat
  | 0 => 0
  | k + 1 => mskN c k ||| (if fnd c k = 0 then 0 else 3 * 4 ^ k)
theorem mskN_s {c k : Nat} : mskN c (k + 1) = mskN c k ||| (if fnd c k = 0 then 0 else 3 * 4 ^ k) := rfl
theorem fnd_msk {c j : Nat} (hj : j < 6) : ∀ {k : Nat}, k ≤ 6 → fnd (mskN c k) j = if j < k ∧ ¬ fnd c j = 0 then 3 else 0
  | 0, _ => by rw [if_neg (by omega)]; exact fnd_0
  | k + 1, hk => by
    rw [mskN_s, fnd_or, fnd_msk hj (k := k) (by omega)]
    by_cases q : j = k
    · rw [if_neg (by omega), Nat.zero_or]
      by_cases z : fnd c k = 0
      · rw [if_pos z, fnd_0, if_neg (fun y => y.2 (by rw [q]; exact z))]
      · rw [if_neg z, fnd_sh (by omega) (by omega) hj, if_pos q, if_pos ⟨by omega, by rw [q]; exact z⟩]
    · have e : fnd (if fnd c k = 0 then 0 else 3 * 4 ^ k) j = 0 := by
        split
        · exact fnd_0
        · rw [fnd_sh (by omega) (by omega) hj, if_neg q]
      rw [e, Nat.or_zero]
      by_cases z : j < k ∧ ¬ fnd c j = 0
      · rw [if_pos z, if_pos ⟨by omega, z.2⟩]
      · rw [if_neg z, if_neg (fun y => z ⟨by omega, y.2⟩)]
theorem msk_lt {c : Nat} : ∀ {k : Nat}, k ≤ 6 → mskN c k < 4096
  | 0, _ => by show (0 : Nat) < 4096; decide
  | k + 1, hk => by
    have p : 4 ^ k ≤ 4 ^ 5 := Nat.pow_le_pow_right (by decide) (by omega)
    rw [mskN_s]
    refine Nat.or_lt_two_pow (n := 12) (msk_lt (by omega)) ?_
    split
    · decide
    · omega
theorem x3_all : ∀ a : Fin 4, ∀ b : Fin 4, ((a.val ^^^ b.val) &&& 3 = 0 ↔ b.val = a.val) := by decide
theorem cns_x {c o : Nat} (hc : c < 4096) (ho : o < 4096) : ((o ^^^ c) &&& mskN c 6 = 0) ↔ cns c o = true := by
  rw [cns_iff]
  have dg : ∀ j, j < 6 → fnd ((o ^^^ c) &&& mskN c 6) j = if fnd c j = 0 then 0 else (fnd o j ^^^ fnd c j) &&& 3 := fun j hj => by
    rw [fnd_and, fnd_xor, fnd_msk hj (Nat.le_refl _)]
    by_cases z : fnd c j = 0
    · rw [if_neg (fun y => y.2 z), if_pos z, Nat.and_zero]
    · rw [if_pos ⟨hj, z⟩, if_neg z]
  constructor
  · intro h j hj
    have d := dg j hj
    rw [h, fnd_0] at d
    by_cases z : fnd c j = 0
    · exact Or.inl z
    · rw [if_neg z] at d
      exact Or.inr ((x3_all ⟨fnd o j, fnd_lt⟩ ⟨fnd c j, fnd_lt⟩).mp d.symm)
  · intro h
    have l : (o ^^^ c) &&& mskN c 6 < 4096 := Nat.lt_of_le_of_lt Nat.and_le_right (msk_lt (Nat.le_refl _))
    refine fnd_ext l (by decide) (fun j hj => ?_)
    rw [dg j hj, fnd_0]
    by_cases z : fnd c j = 0
    · rw [if_pos z]
    · rw [if_neg z]
      rcases h j hj with y | y
      · exact absurd y z
      · exact (x3_all ⟨fnd o j, fnd_lt⟩ ⟨fnd c j, fnd_lt⟩).mpr y
theorem ctN_comp {q ok : Nat → Bool} : ∀ {K : Nat}, ctN q (ctN ok K) = ctN (fun v => ok v && q (ctN ok v)) K
  | 0 => rfl
  | K + 1 => by
    rw [ctN_s (p := fun v => ok v && q (ctN ok v)), ← ctN_comp (K := K), ctN_s (p := ok)]
    cases h : ok K
    · rfl
    · show ctN q (ctN ok K + 1) = _
      rw [ctN_s]; rfl
theorem ctN_surj {ok : Nat → Bool} : ∀ {K j : Nat}, j < ctN ok K → ∃ v, v < K ∧ ok v = true ∧ ctN ok v = j
  | 0, j, h => absurd h (Nat.not_lt_zero _)
  | K + 1, j, h => by
    rw [ctN_s] at h
    by_cases q : j < ctN ok K
    · obtain ⟨v, a, b⟩ := ctN_surj q
      exact ⟨v, by omega, b⟩
    · by_cases z : ok K = true
      · rw [if_pos z] at h
        exact ⟨K, by omega, z, by omega⟩
      · rw [if_neg z] at h; omega
def MOr (n c : Nat) : Nat := ctN (fun v => okV n v && cns c (cdN n v 6)) 256
theorem MOr_le {n c : Nat} : MOr n c ≤ 256 := ctN_le _ _
/-- a pair of so many people that is not known -/
def gd (n c k : Nat) : Prop := up6 k < n ∧ fnd c k = 0
theorem spM_wB {n : Int} {c k : Nat} {h : aH} {Q : Int → Prop} (hn : 0 ≤ n ∧ n ≤ 4) (e : h 61 0 = n) (hc : c < 4096) (hk : k < 6) (hb : gd n.toNat c k → ∀ w : Nat, 1 ≤ w → w ≤ 3 → 0 ≤ h 77 (setF c k w : Int) ∧ h 77 (setF c k w : Int) ≤ 1000000) (kk : ∀ r, ((¬ gd n.toNat c k ∧ r = 1000000) ∨ (gd n.toNat c k ∧ r = 1 + mxW (fun c => h 77 (c : Int)) c k)) → Q r) : wp_X9_worstBehind c k h Q := by
  unfold wp_X9_worstBehind
  refine spM_pairNo hk hn e (fun r hr => ⟨fun q => kk _ (Or.inl ⟨fun z => by have := z.1; omega, rfl⟩), fun q => ?_⟩)
  rw [fnd_b (by omega) (by omega)]
  have fl := fnd_lt (P := c) (i := k)
  refine ⟨inR_of (by omega) (by omega), fun q2 => ?_, fun q2 => kk _ (Or.inl ⟨fun z => by have := z.2; omega, rfl⟩)⟩
  have hf : fnd c k = 0 := by omega
  have ix : ∀ w : Nat, 1 ≤ w → w ≤ 3 → bor (c : Int) (bshl (w : Int) (2 * (k : Int))) = (setF c k w : Int) := fun w w1 w3 => by
    have p : 4 ^ k ≤ 4 ^ 5 := Nat.pow_le_pow_right (by decide) (by omega)
    have mb := Nat.mul_le_mul w3 p
    rw [show (2 * (k : Int)) = ((2 * k : Nat) : Int) by omega, bshl_n (by omega) (by rw [← p4_2]; omega), ← p4_2, bor_n (by omega) (by omega)]
    have l : c ||| w * 4 ^ k < 4096 := Nat.or_lt_two_pow (n := 12) hc (by omega)
    rw [fnd_ext l (setF4 hc hk w3) (fun j hj => ?_)]
    rw [fnd_or, fnd_sh (by omega) hk hj, fnd_set hc hk hj w3]
    by_cases z : j = k
    · rw [if_pos z, if_pos z, z, hf, Nat.zero_or]
    · rw [if_neg z, if_neg z, Nat.or_zero]
  have B := fun w (hw : 1 ≤ w ∧ w ≤ 3) => hb ⟨by omega, hf⟩ w hw.1 hw.2
  have B1 := B 1 (by omega)
  have B2 := B 2 (by omega)
  have B3 := B 3 (by omega)
  have L := fun w (hw : 1 ≤ w ∧ w ≤ 3) => setF4 hc hk hw.2
  have L1 := L 1 (by omega)
  have L2 := L 2 (by omega)
  have L3 := L 3 (by omega)
  have i1 : bor (c : Int) (bshl 1 (2 * (k : Int))) = (setF c k 1 : Int) := ix 1 (by decide) (by decide)
  have i2 : bor (c : Int) (bshl (1 + 1) (2 * (k : Int))) = (setF c k 2 : Int) := ix 2 (by decide) (by decide)
  have i3 : bor (c : Int) (bshl (1 + 1 + 1) (2 * (k : Int))) = (setF c k 3 : Int) := ix 3 (by decide) (by decide)
  refine ⟨4, ?_⟩
  simp only [lpN]
  unfold wp_X9_worstBehind_B26
  refine ⟨inR_of (by omega) (by omega), fun z => by omega, fun _ => ?_⟩
  rw [i1]
  refine ⟨⟨by omega, by omega⟩, ?_⟩
  rintro _ rfl
  refine ⟨⟨inR_of (by omega) (by omega), inR_of (by omega) (by omega), trivial⟩, ?_⟩
  rintro _ rfl
  try dsimp only
  refine ⟨inR_of (by omega) (by omega), fun z => by omega, fun _ => ?_⟩
  rw [i2]
  refine ⟨⟨by omega, by omega⟩, ?_⟩
  rintro _ rfl
  have e1 : (if h 77 (setF c k 1 : Int) ≤ 0 then 0 else h 77 (setF c k 1 : Int) : Int) = h 77 (setF c k 1 : Int) := by split <;> omega
  rw [e1]
  refine ⟨⟨inR_of (by omega) (by omega), inR_of (by omega) (by omega), trivial⟩, ?_⟩
  rintro _ rfl
  try dsimp only
  refine ⟨inR_of (by omega) (by omega), fun z => by omega, fun _ => ?_⟩
  rw [i3]
  refine ⟨⟨by omega, by omega⟩, ?_⟩
  rintro _ rfl
  have e2 : (if h 77 (setF c k 2 : Int) ≤ h 77 (setF c k 1 : Int) then h 77 (setF c k 1 : Int) else h 77 (setF c k 2 : Int) : Int) = max (h 77 (setF c k 1 : Int)) (h 77 (setF c k 2 : Int)) := by split <;> omega
  rw [e2]
  refine ⟨⟨inR_of (by omega) (by omega), inR_of (by omega) (by omega), trivial⟩, ?_⟩
  rintro _ rfl
  try dsimp only
  refine ⟨inR_of (by omega) (by omega), fun _ => kk _ (Or.inr ⟨⟨by omega, hf⟩, ?_⟩), fun z => by omega⟩
  unfold mxW
  try dsimp only
  split <;> omega
