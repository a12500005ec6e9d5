-- THE TEXT: its tokens, as both readers find them
def rnF (P : Int → Bool) : Nat → Int → Int
  | 0, p => p
  | k + 1, p => if P p = true then rnF P k (p + 1) else p
def RN (P : Int → Bool) (p e : Int) : Prop := p ≤ e ∧ (∀ i, p ≤ i → i < e → P i = true) ∧ P e = false
theorem rnF_ok {P : Int → Bool} (hP : ∀ i, 150 ≤ i → P i = false) : ∀ {k : Nat} {p : Int}, 150 ≤ p + (k : Int) → RN P p (rnF P k p)
  | 0, p, h => ⟨Int.le_refl _, fun i h1 h2 => by unfold rnF at h2; omega, hP _ (by unfold rnF; omega)⟩
  | k + 1, p, h => by
    unfold rnF
    by_cases q : P p = true
    · rw [if_pos q]
      obtain ⟨a, b, c⟩ := rnF_ok hP (k := k) (p := p + 1) (by omega)
      refine ⟨by omega, fun i h1 h2 => ?_, c⟩
      by_cases z : i = p
      · rw [z]; exact q
      · exact b i (by omega) h2
    · rw [if_neg q]
      exact ⟨Int.le_refl _, fun i h1 h2 => by omega, by simpa using q⟩
theorem RN.uniq {P : Int → Bool} {p e e' : Int} (a : RN P p e) (b : RN P p e') : e = e' := by
  obtain ⟨a1, a2, a3⟩ := a
  obtain ⟨b1, b2, b3⟩ := b
  by_cases q : e < e'
  · have := b2 e a1 q
    rw [a3] at this
    cases this
  · by_cases q2 : e' < e
    · have := a2 e' b1 q2
      rw [b3] at this
      cases this
    · omega
def isB (a : Int → Int) (L i : Int) : Bool := decide (i < L) && decide (a i = 32)
def isD (a : Int → Int) (L i : Int) : Bool := decide (i < L) && (decide (48 ≤ a i) && decide (a i ≤ 57))
theorem isB_iff {a : Int → Int} {L i : Int} : isB a L i = true ↔ i < L ∧ a i = 32 := by unfold isB; simp
theorem isD_iff {a : Int → Int} {L i : Int} : isD a L i = true ↔ i < L ∧ 48 ≤ a i ∧ a i ≤ 57 := by unfold isD; simp
def TX (a : Int → Int) (L : Int) : Prop := (0 ≤ L ∧ L ≤ 150) ∧ ∀ i, 0 ≤ i → i < L → 0 ≤ a i ∧ a i < 256
def skp (a : Int → Int) (L p : Int) : Int := rnF (isB a L) 150 p
def edp (a : Int → Int) (L p : Int) : Int := rnF (isD a L) 150 p
theorem isB_off {a : Int → Int} {L : Int} (tx : TX a L) (i : Int) (hi : 150 ≤ i) : isB a L i = false := by
  rw [← Bool.not_eq_true, isB_iff]
  have := tx.1
  omega
theorem isD_off {a : Int → Int} {L : Int} (tx : TX a L) (i : Int) (hi : 150 ≤ i) : isD a L i = false := by
  rw [← Bool.not_eq_true, isD_iff]
  have := tx.1
  omega
theorem skp_ok {a : Int → Int} {L p : Int} (tx : TX a L) (hp : 0 ≤ p) : RN (isB a L) p (skp a L p) := rnF_ok (isB_off tx) (by omega)
theorem edp_ok {a : Int → Int} {L p : Int} (tx : TX a L) (hp : 0 ≤ p) : RN (isD a L) p (edp a L p) := rnF_ok (isD_off tx) (by omega)
theorem skp_le {a : Int → Int} {L p : Int} (tx : TX a L) (hp : 0 ≤ p ∧ p ≤ L) : p ≤ skp a L p ∧ skp a L p ≤ L := by
  obtain ⟨h1, h2, h3⟩ := skp_ok tx hp.1
  refine ⟨h1, ?_⟩
  by_cases q : skp a L p ≤ L
  · exact q
  · have := isB_iff.mp (h2 (skp a L p - 1) (by omega) (by omega))
    omega
theorem edp_le {a : Int → Int} {L p : Int} (tx : TX a L) (hp : 0 ≤ p ∧ p ≤ L) : p ≤ edp a L p ∧ edp a L p ≤ L ∧ (isD a L p = true → p + 1 ≤ edp a L p) ∧ (isD a L p = false → edp a L p = p) := by
  have k := edp_ok tx hp.1
  obtain ⟨h1, h2, h3⟩ := k
  refine ⟨h1, ?_, fun d => ?_, fun d => RN.uniq (edp_ok tx hp.1) ⟨Int.le_refl _, fun i i0 i1 => by omega, d⟩⟩
  · by_cases q : edp a L p ≤ L
    · exact q
    · have := isD_iff.mp (h2 (edp a L p - 1) (by omega) (by omega))
      omega
  · by_cases q : edp a L p = p
    · rw [q, d] at h3; cases h3
    · omega
/-- a token at s: its kind (0 end, 1 letter, 2 number, 3 stop, 4 wrong), value, end -/
def tkS (a : Int → Int) (L s : Int) : Int := if L ≤ s then 0 else if isD a L s = true then (if edp a L s - s = 1 ∨ (edp a L s - s = 2 ∧ ¬ a s = 48) then 2 else 4) else if a s = 59 then 3 else if a s = 115 ∨ a s = 112 ∨ a s = 103 ∨ a s = 98 then 1 else 4
def vlS (a : Int → Int) (L s : Int) : Int := if isD a L s = true then (if edp a L s - s = 1 then a s - 48 else 10 * (a s - 48) + (a (s + 1) - 48)) else a s
def nxS (a : Int → Int) (L s : Int) : Int := if L ≤ s then s else if isD a L s = true then edp a L s else s + 1
def tT (a : Int → Int) (L : Int) : Nat → Int
  | 0 => 0
  | j + 1 => nxS a L (skp a L (tT a L j))
def tS (a : Int → Int) (L : Int) (j : Nat) : Int := skp a L (tT a L j)
def tK (a : Int → Int) (L : Int) (j : Nat) : Int := tkS a L (tS a L j)
def tV (a : Int → Int) (L : Int) (j : Nat) : Int := vlS a L (tS a L j)
theorem tT_s {a : Int → Int} {L : Int} {j : Nat} : tT a L (j + 1) = nxS a L (tS a L j) := rfl
theorem tk_bd {a : Int → Int} {L s : Int} : 0 ≤ tkS a L s ∧ tkS a L s ≤ 4 := by
  unfold tkS
  repeat (first | omega | split)
theorem nx_le {a : Int → Int} {L s : Int} (tx : TX a L) (hs : 0 ≤ s ∧ s ≤ L) : s ≤ nxS a L s ∧ nxS a L s ≤ L ∧ (s < L → s + 1 ≤ nxS a L s) := by
  have := edp_le tx hs
  unfold nxS
  by_cases q : L ≤ s
  · rw [if_pos q]; omega
  · rw [if_neg q]
    by_cases d : isD a L s = true
    · rw [if_pos d]
      have := this.2.2.1 d
      omega
    · rw [if_neg d]; omega
theorem tT_bd {a : Int → Int} {L : Int} (tx : TX a L) : ∀ j : Nat, 0 ≤ tT a L j ∧ tT a L j ≤ L
  | 0 => ⟨Int.le_refl _, tx.1.1⟩
  | j + 1 => by
    have h := tT_bd tx j
    have h2 := skp_le tx h
    have h3 := nx_le tx (s := skp a L (tT a L j)) ⟨by omega, by omega⟩
    show 0 ≤ nxS a L (skp a L (tT a L j)) ∧ nxS a L (skp a L (tT a L j)) ≤ L
    omega
theorem tS_bd {a : Int → Int} {L : Int} (tx : TX a L) (j : Nat) : 0 ≤ tS a L j ∧ tT a L j ≤ tS a L j ∧ tS a L j ≤ L ∧ tS a L j ≤ tT a L (j + 1) ∧ (tS a L j < L → tS a L j + 1 ≤ tT a L (j + 1)) := by
  have h := tT_bd tx j
  have h2 := skp_le tx h
  have h3 := nx_le tx (s := skp a L (tT a L j)) ⟨by omega, by omega⟩
  rw [tT_s]
  unfold tS
  omega
theorem tK_0 {a : Int → Int} {L : Int} {j : Nat} : tK a L j = 0 ↔ L ≤ tS a L j := by
  unfold tK tkS
  by_cases q : L ≤ tS a L j
  · rw [if_pos q]; omega
  · rw [if_neg q]
    refine ⟨fun h => ?_, fun h => absurd h q⟩
    exfalso
    revert h
    repeat (first | omega | split)
theorem tV_2 {a : Int → Int} {L : Int} {j : Nat} (tx : TX a L) (h : tK a L j = 2) : 0 ≤ tV a L j ∧ tV a L j ≤ 99 := by
  have b := tS_bd tx j
  have e := edp_le tx (p := tS a L j) ⟨by omega, by omega⟩
  have e2 := edp_ok tx (p := tS a L j) (by omega)
  unfold tK tkS at h
  by_cases q : L ≤ tS a L j
  · rw [if_pos q] at h; omega
  · rw [if_neg q] at h
    by_cases d : isD a L (tS a L j) = true
    · rw [if_pos d] at h
      unfold tV vlS
      rw [if_pos d]
      have d0 := isD_iff.mp d
      by_cases z : edp a L (tS a L j) - tS a L j = 1
      · rw [if_pos z]; omega
      · rw [if_neg z]
        by_cases z2 : edp a L (tS a L j) - tS a L j = 1 ∨ (edp a L (tS a L j) - tS a L j = 2 ∧ ¬ a (tS a L j) = 48)
        · have d1 := isD_iff.mp (e2.2.1 (tS a L j + 1) (by omega) (by omega))
          omega
        · rw [if_neg z2] at h; omega
    · rw [if_neg d] at h
      exfalso
      revert h
      repeat (first | omega | split)
theorem tV_1 {a : Int → Int} {L : Int} {j : Nat} (h : tK a L j = 1) : tS a L j < L ∧ isD a L (tS a L j) = false ∧ tV a L j = a (tS a L j) ∧ (tV a L j = 115 ∨ tV a L j = 112 ∨ tV a L j = 103 ∨ tV a L j = 98) ∧ tT a L (j + 1) = tS a L j + 1 := by
  rw [tT_s]
  unfold tK tkS at h
  unfold tV vlS nxS
  by_cases q : L ≤ tS a L j
  · rw [if_pos q] at h; omega
  · rw [if_neg q] at h
    by_cases d : isD a L (tS a L j) = true
    · rw [if_pos d] at h
      exfalso
      revert h
      split <;> omega
    · rw [if_neg d] at h
      rw [if_neg d, if_neg q, if_neg d]
      refine ⟨by omega, by simpa using d, rfl, ?_, rfl⟩
      by_cases z : a (tS a L j) = 115 ∨ a (tS a L j) = 112 ∨ a (tS a L j) = 103 ∨ a (tS a L j) = 98
      · exact z
      · rw [if_neg z] at h
        exfalso
        revert h
        split <;> omega
/-- a fault so far, one thing more looked at -/
def nfl (f : Int) (b : Bool) (s : Int) : Int := if f = -1 then (if b = true then -1 else s) else f
theorem nfl_iff {f s : Int} {b : Bool} (hs : 0 ≤ s) : nfl f b s = -1 ↔ f = -1 ∧ b = true := by
  unfold nfl
  by_cases q : f = -1
  · rw [if_pos q]
    by_cases z : b = true
    · rw [if_pos z]; exact ⟨fun _ => ⟨q, z⟩, fun _ => rfl⟩
    · rw [if_neg z]; exact ⟨fun h => by omega, fun h => absurd h.2 z⟩
  · rw [if_neg q]; exact ⟨fun h => absurd h q, fun h => h.1⟩
theorem nfl_yes {s : Int} {b : Bool} (hb : b = true) : nfl (-1) b s = -1 := by unfold nfl; rw [if_pos rfl, if_pos hb]
theorem nfl_no {s : Int} {b : Bool} (hb : ¬ b = true) : nfl (-1) b s = s := by unfold nfl; rw [if_pos rfl, if_neg hb]
theorem nfl_old {f s : Int} {b : Bool} (hf : ¬ f = -1) : nfl f b s = f := by unfold nfl; rw [if_neg hf]
def okn (a : Int → Int) (L lo hi : Int) (j : Nat) : Bool := decide (tK a L j = 2) && (decide (lo ≤ tV a L j) && decide (tV a L j ≤ hi))
def oke (a : Int → Int) (L : Int) (j : Nat) : Bool := decide (tK a L j = 3)
theorem okn_iff {a : Int → Int} {L lo hi : Int} {j : Nat} : okn a L lo hi j = true ↔ tK a L j = 2 ∧ lo ≤ tV a L j ∧ tV a L j ≤ hi := by unfold okn; simp
theorem oke_iff {a : Int → Int} {L : Int} {j : Nat} : oke a L j = true ↔ tK a L j = 3 := by unfold oke; simp
-- THE CLASS'S READER
/-- the class's reader is behind token j - 1, or has found the fault f -/
def CRd (a : Int → Int) (L : Int) (h : aH) (f : Int) (j : Nat) : Prop := h 2 = a ∧ h 1 1 = L ∧ h 1 3 = f ∧ (0 ≤ h 1 2 ∧ h 1 2 ≤ L) ∧ ((f = -1 ∧ h 1 2 = tT a L j) ∨ (0 ≤ f ∧ f ≤ 150))
theorem sp_skip {a : Int → Int} {L p : Int} {h : aH} {Q : aH → Prop} (tx : TX a L) (ea : h 2 = a) (eL : h 1 1 = L) (ep : h 1 2 = p) (hp : 0 ≤ p ∧ p ≤ L) (kk : ∀ g : aH, (∀ c, c ≠ 1 → g c = h c) → (∀ j : Int, ¬ j = 2 → g 1 j = h 1 j) → g 1 2 = skp a L p → Q g) : wp_X6_skipBlanks h Q := by
  have hL := tx.1
  unfold wp_X6_skipBlanks
  refine lp.rule (μ := fun y => (151 - y 1 2).toNat) (I := fun y => (∀ c, c ≠ 1 → y c = h c) ∧ (∀ j : Int, ¬ j = 2 → y 1 j = h 1 j) ∧ (p ≤ y 1 2 ∧ y 1 2 ≤ L) ∧ ∀ i, p ≤ i → i < y 1 2 → isB a L i = true) ?_ h ⟨fun _ _ => rfl, fun _ _ => rfl, ⟨by omega, by omega⟩, fun i i0 i1 => by omega⟩
  rintro X g ⟨g1, g2, g3, g4⟩ hX
  unfold wp_X6_skipBlanks_B0
  have eg1 : g 1 1 = L := by rw [g2 1 (by decide)]; exact eL
  rw [eg1, g1 2 (by decide), ea]
  have done : isB a L (g 1 2) = false → Q g := fun z => kk g g1 g2 (RN.uniq ⟨g3.1, g4, z⟩ (skp_ok tx hp.1))
  refine ⟨inR_of (by omega) (by omega), inR_of (by omega) (by omega), fun q => done ?_, fun q => ⟨⟨by omega, by omega⟩, ?_, fun q2 => ?_, fun q2 => done ?_⟩⟩
  · rw [← Bool.not_eq_true, isB_iff]; omega
  · have := tx.2 (g 1 2) (by omega) (by omega)
    exact inR_of (by omega) (by omega)
  · rintro _ rfl
    have e2 : up g 1 2 (g 1 2 + 1) 1 2 = g 1 2 + 1 := by rw [up_eq, if_pos rfl]
    refine hX _ ⟨fun c hc => by rw [up_ne hc, g1 c hc], fun j hj => by rw [up_eq, if_neg hj, g2 j hj], by rw [e2]; omega, fun i i0 i1 => ?_⟩ (by rw [e2]; omega)
    rw [e2] at i1
    by_cases z : i = g 1 2
    · rw [z]; exact isB_iff.mpr ⟨by omega, q2⟩
    · exact g4 i i0 (by omega)
  · rw [← Bool.not_eq_true, isB_iff]
    exact fun z => q2 z.2
theorem sp_rNend {a : Int → Int} {L lo hi v : Int} {j : Nat} {g : aH} {Q : Int → aH → Prop} (tx : TX a L) (hlo : inR lo) (hhi : inR hi) (ea : g 2 = a) (eL : g 1 1 = L) (e3 : g 1 3 = -1) (e2 : g 1 2 = edp a L (tS a L j)) (v1 : g 1 2 = tS a L j + 1 → v = a (tS a L j) - 48) (v2 : tS a L j + 2 ≤ g 1 2 → v = 10 * (a (tS a L j) - 48) + (a (tS a L j + 1) - 48)) (kk : ∀ r g', (∀ c, c ≠ 1 → g' c = g c) → CRd a L g' (nfl (-1) (okn a L lo hi j) (tS a L j)) (j + 1) → (nfl (-1) (okn a L lo hi j) (tS a L j) = -1 → r = tV a L j) → Q r g') : wp_X6_readNumber_J90 lo hi Q (tS a L j) v g := by
  have hL := tx.1
  have b := tS_bd tx j
  have e := edp_le tx (p := tS a L j) ⟨by omega, by omega⟩
  unfold wp_X6_readNumber_J90
  rintro _ rfl
  rw [ea, e2]
  -- a fault here
  have bad : ¬ okn a L lo hi j = true → wp_X6_readNumber_J143 Q (tS a L j) v g := by
    intro z
    unfold wp_X6_readNumber_J143
    rintro _ rfl
    refine kk _ _ (fun c hc => up_ne hc) ⟨by rw [up_ne (by decide)]; exact ea, by rw [up_eq, if_neg (by decide)]; exact eL, by rw [up_eq, if_pos rfl, nfl_no z], by rw [up_eq, if_neg (by decide), e2]; omega, Or.inr (by rw [nfl_no z]; omega)⟩ (fun z2 => ?_)
    rw [nfl_no z] at z2
    omega
  have ha : tS a L j < L → 0 ≤ a (tS a L j) ∧ a (tS a L j) < 256 := fun z => tx.2 _ (by omega) z
  refine ⟨⟨inR_of (by omega) (by omega), fun _ => trivial, fun _ => ⟨fun q => ⟨⟨by omega, by omega⟩, ?_, trivial⟩, fun _ => trivial⟩⟩, ?_⟩
  · have := ha (by omega)
    exact inR_of (by omega) (by omega)
  rintro _ rfl
  by_cases k2 : tK a L j = 2
  · have kk2 := k2
    unfold tK tkS at kk2
    have q : ¬ L ≤ tS a L j := fun q => by rw [if_pos q] at kk2; omega
    rw [if_neg q] at kk2
    have d : isD a L (tS a L j) = true := by
      by_cases d : isD a L (tS a L j) = true
      · exact d
      · rw [if_neg d] at kk2
        exfalso
        revert kk2
        repeat (first | omega | split)
    rw [if_pos d] at kk2
    have z2 : edp a L (tS a L j) - tS a L j = 1 ∨ (edp a L (tS a L j) - tS a L j = 2 ∧ ¬ a (tS a L j) = 48) := by
      by_cases z2 : edp a L (tS a L j) - tS a L j = 1 ∨ (edp a L (tS a L j) - tS a L j = 2 ∧ ¬ a (tS a L j) = 48)
      · exact z2
      · rw [if_neg z2] at kk2; omega
    have ev : v = tV a L j := by
      unfold tV vlS
      rw [if_pos d]
      rcases z2 with z2 | z2
      · rw [if_pos z2]; exact v1 (by omega)
      · rw [if_neg (by omega)]; exact v2 (by omega)
    have eT : tT a L (j + 1) = edp a L (tS a L j) := by rw [tT_s]; unfold nxS; rw [if_neg q, if_pos d]
    have vb := tV_2 tx k2
    have e6 : (if edp a L (tS a L j) - tS a L j = 1 then 1 else (if edp a L (tS a L j) - tS a L j = 2 then (if a (tS a L j) = 48 then 0 else 1 : Int) else 0 : Int) : Int) = 1 := by
      rcases z2 with z2 | z2
      · rw [if_pos z2]
      · rw [if_neg (by omega), if_pos z2.1, if_neg z2.2]
    rw [e6]
    refine ⟨inR_of (by omega) (by omega), fun z => by omega, fun _ => sp_within2 (inR_of (by omega) (by omega)) hlo hhi (fun z => bad (fun z3 => ?_)) (fun b1 b2 => ?_)⟩
    · have := okn_iff.mp z3
      omega
    · have hk : okn a L lo hi j = true := okn_iff.mpr ⟨k2, by omega, by omega⟩
      refine kk v g (fun _ _ => rfl) ⟨ea, eL, by rw [nfl_yes hk]; exact e3, by rw [e2]; omega, Or.inl ⟨nfl_yes hk, by rw [e2, eT]⟩⟩ (fun _ => ev)
  · have nk : ¬ okn a L lo hi j = true := fun z => k2 (okn_iff.mp z).1
    have e6 : (if edp a L (tS a L j) - tS a L j = 1 then 1 else (if edp a L (tS a L j) - tS a L j = 2 then (if a (tS a L j) = 48 then 0 else 1 : Int) else 0 : Int) : Int) = 0 := by
      unfold tK tkS at k2
      by_cases q : L ≤ tS a L j
      · rw [if_neg (by omega), if_neg (by omega)]
      · rw [if_neg q] at k2
        by_cases d : isD a L (tS a L j) = true
        · rw [if_pos d] at k2
          by_cases z2 : edp a L (tS a L j) - tS a L j = 1 ∨ (edp a L (tS a L j) - tS a L j = 2 ∧ ¬ a (tS a L j) = 48)
          · rw [if_pos z2] at k2; exact absurd rfl k2
          · rw [if_neg (fun z => z2 (Or.inl z))]
            by_cases z3 : edp a L (tS a L j) - tS a L j = 2
            · rw [if_pos z3, if_pos (Decidable.byContradiction (fun z4 => z2 (Or.inr ⟨z3, z4⟩)))]
            · rw [if_neg z3]
        · have := e.2.2.2 (by simpa using d)
          rw [if_neg (by omega), if_neg (by omega)]
    rw [e6]
    exact ⟨inR_of (by omega) (by omega), fun _ => bad nk, fun z => absurd rfl z⟩
theorem sp_rN {a : Int → Int} {L lo hi f : Int} {j : Nat} {h : aH} {Q : Int → aH → Prop} (tx : TX a L) (hlo : inR lo) (hhi : inR hi) (cs : CRd a L h f j) (kk : ∀ r g, (∀ c, c ≠ 1 → g c = h c) → CRd a L g (nfl f (okn a L lo hi j) (tS a L j)) (j + 1) → (nfl f (okn a L lo hi j) (tS a L j) = -1 → r = tV a L j) → Q r g) : wp_X6_readNumber lo hi h Q := by
  obtain ⟨ea, eL, ef, eat, cc⟩ := cs
  have hL := tx.1
  have b := tS_bd tx j
  have bT := tT_bd tx j
  unfold wp_X6_readNumber wp_X6_hasFault
  rw [ef]
  refine ⟨⟨inR_of (by omega) (by omega), trivial⟩, fun q => ?_, fun q => ?_⟩
  · have q1 : f = -1 := by
      by_cases z : f = -1
      · exact z
      · rw [if_neg z] at q; omega
    subst q1
    have e2 : h 1 2 = tT a L j := by
      rcases cc with cc | cc
      · exact cc.2
      · omega
    refine sp_skip tx ea eL e2 bT (fun g g1 g2 g3 => ?_)
    rintro _ rfl
    rw [g3]
    show lp (fun X y => wp_X6_readNumber_B21 lo hi Q (tS a L j) X y.1 y.2) (0, g)
    have gs : g 1 2 = tS a L j := g3
    refine lp.rule (μ := fun y => (151 - y.2 1 2).toNat) (I := fun y => (∀ c, c ≠ 1 → y.2 c = h c) ∧ (∀ j : Int, ¬ j = 2 → y.2 1 j = h 1 j) ∧ (tS a L j ≤ y.2 1 2 ∧ y.2 1 2 ≤ L) ∧ (∀ i, tS a L j ≤ i → i < y.2 1 2 → isD a L i = true) ∧ (y.2 1 2 = tS a L j → y.1 = 0) ∧ (y.2 1 2 = tS a L j + 1 → y.1 = a (tS a L j) - 48) ∧ (tS a L j + 2 ≤ y.2 1 2 → y.1 = 10 * (a (tS a L j) - 48) + (a (tS a L j + 1) - 48))) ?_ (0, g) ⟨g1, g2, ⟨by dsimp only; omega, by dsimp only; omega⟩, fun i i0 i1 => by dsimp only at i1; omega, fun _ => rfl, fun z => by dsimp only at z; omega, fun z => by dsimp only at z; omega⟩
    rintro X ⟨v, y⟩ ⟨y1, y2, y3, y4, v0, v1, v2⟩ hX
    dsimp only at y1 y2 y3 y4 v0 v1 v2 ⊢
    unfold wp_X6_readNumber_B21
    have ey1 : y 1 1 = L := by rw [y2 1 (by decide)]; exact eL
    have ey3 : y 1 3 = -1 := by rw [y2 3 (by decide)]; exact ef
    have eya : y 2 = a := by rw [y1 2 (by decide)]; exact ea
    have done : isD a L (y 1 2) = false → wp_X6_readNumber_J90 lo hi Q (tS a L j) v y := fun z => sp_rNend tx hlo hhi eya ey1 ey3 (RN.uniq ⟨y3.1, y4, z⟩ (edp_ok tx (by omega))) v1 v2 (fun r g' z1 z2 z3 => kk r g' (fun c hc => by rw [z1 c hc, y1 c hc]) z2 z3)
    rw [ey1, eya]
    refine ⟨inR_of (by omega) (by omega), inR_of (by omega) (by omega), fun q => done ?_, fun q => ⟨⟨by omega, by omega⟩, ?_⟩⟩
    · rw [← Bool.not_eq_true, isD_iff]; omega
    · unfold wp_X6_isFigure
      have ha := tx.2 (y 1 2) (by omega) (by omega)
      refine ⟨⟨inR_of (by omega) (by omega), trivial⟩, fun q2 => done ?_, fun q2 => ⟨⟨inR_of (by omega) (by omega), trivial⟩, ?_⟩⟩
      · rw [← Bool.not_eq_true, isD_iff]
        intro z
        rw [if_neg (by omega), if_neg (by omega)] at q2
        omega
      · have d : 48 ≤ a (y 1 2) ∧ a (y 1 2) ≤ 57 := by
          by_cases z : a (y 1 2) < 48
          · rw [if_pos z] at q2; exact absurd rfl q2
          · rw [if_neg z] at q2
            by_cases z2 : 57 < a (y 1 2)
            · rw [if_pos z2] at q2; exact absurd rfl q2
            · omega
        rintro _ rfl
        have e2 : up y 1 2 (y 1 2 + 1) 1 2 = y 1 2 + 1 := by rw [up_eq, if_pos rfl]
        refine hX _ ⟨fun c hc => by dsimp only; rw [up_ne hc, y1 c hc], fun j hj => by dsimp only; rw [up_eq, if_neg hj, y2 j hj], by dsimp only; rw [e2]; omega, fun i i0 i1 => ?_, fun z => ?_, fun z => ?_, fun z => ?_⟩ (by dsimp only; rw [e2]; omega)
        · dsimp only at i1
          rw [e2] at i1
          by_cases z : i = y 1 2
          · rw [z]; exact isD_iff.mpr ⟨by omega, d⟩
          · exact y4 i i0 (by omega)
        · dsimp only at z
          omega
        · dsimp only at z ⊢
          rw [e2] at z
          have z1 : y 1 2 = tS a L j := by omega
          rw [if_neg (by omega), v0 z1, z1]
          omega
        · dsimp only at z ⊢
          rw [e2] at z
          by_cases z1 : y 1 2 = tS a L j + 1
          · rw [if_neg (by omega), v1 z1, z1]
            omega
          · rw [if_pos (by omega)]
            exact v2 (by omega)
  · have q1 : ¬ f = -1 := fun z => by rw [if_pos z] at q; exact q rfl
    refine kk _ _ (fun _ _ => rfl) ⟨ea, eL, by rw [nfl_old q1]; exact ef, eat, Or.inr ?_⟩ (fun z => ?_)
    · rw [nfl_old q1]; omega
    · rw [nfl_old q1] at z; exact absurd z q1
theorem sp_rE {a : Int → Int} {L f : Int} {j : Nat} {h : aH} {Q : aH → Prop} (tx : TX a L) (cs : CRd a L h f j) (kk : ∀ g, (∀ c, c ≠ 1 → g c = h c) → CRd a L g (nfl f (oke a L j) (tS a L j)) (j + 1) → Q g) : wp_X6_readEnd h Q := by
  obtain ⟨ea, eL, ef, eat, cc⟩ := cs
  have hL := tx.1
  have b := tS_bd tx j
  have bT := tT_bd tx j
  unfold wp_X6_readEnd wp_X6_hasFault
  rw [ef]
  refine ⟨⟨inR_of (by omega) (by omega), trivial⟩, fun q => ?_, fun q => ?_⟩
  · have q1 : f = -1 := by
      by_cases z : f = -1
      · exact z
      · rw [if_neg z] at q; omega
    subst q1
    have e2 : h 1 2 = tT a L j := by
      rcases cc with cc | cc
      · exact cc.2
      · omega
    refine sp_skip tx ea eL e2 bT (fun g g1 g2 g3 => ?_)
    have gs : g 1 2 = tS a L j := g3
    have eg1 : g 1 1 = L := by rw [g2 1 (by decide)]; exact eL
    have eg3 : g 1 3 = -1 := by rw [g2 3 (by decide)]; exact ef
    have ega : g 2 = a := by rw [g1 2 (by decide)]; exact ea
    rw [eg1, ega, gs]
    have bad : ¬ oke a L j = true → wp_X6_readEnd_J50 Q g := by
      intro z
      unfold wp_X6_readEnd_J50
      rintro _ rfl
      rw [gs]
      exact kk _ (fun c hc => by rw [up_ne hc, g1 c hc]) ⟨by rw [up_ne (by decide)]; exact ega, by rw [up_eq, if_neg (by decide)]; exact eg1, by rw [up_eq, if_pos rfl, nfl_no z], by rw [up_eq, if_neg (by decide), gs]; omega, Or.inr (by rw [nfl_no z]; omega)⟩
    refine ⟨inR_of (by omega) (by omega), inR_of (by omega) (by omega), fun q => bad ?_, fun q => ⟨⟨by omega, by omega⟩, ?_, fun q2 => ?_, fun q2 => bad ?_⟩⟩
    · rw [oke_iff, tK_0.mpr q]; omega
    · have := tx.2 (tS a L j) (by omega) (by omega)
      exact inR_of (by omega) (by omega)
    · rintro _ rfl
      have d : isD a L (tS a L j) = false := by
        rw [← Bool.not_eq_true, isD_iff]; omega
      have hk : oke a L j = true := by
        rw [oke_iff]
        unfold tK tkS
        rw [if_neg q, if_neg (by rw [d]; decide), if_pos q2]
      have eT : tT a L (j + 1) = tS a L j + 1 := by rw [tT_s]; unfold nxS; rw [if_neg q, if_neg (by rw [d]; decide)]
      exact kk _ (fun c hc => by rw [up_ne hc, g1 c hc]) ⟨by rw [up_ne (by decide)]; exact ega, by rw [up_eq, if_neg (by decide)]; exact eg1, by rw [up_eq, if_neg (by decide), nfl_yes hk]; exact eg3, by rw [up_eq, if_pos rfl]; omega, Or.inl ⟨nfl_yes hk, by rw [up_eq, if_pos rfl, eT]⟩⟩
    · rw [oke_iff]
      unfold tK tkS
      rw [if_neg q, if_neg q2]
      intro z
      revert z
      repeat (first | omega | split)
  · have q1 : ¬ f = -1 := fun z => by rw [if_pos z] at q; exact q rfl
    refine kk _ (fun _ _ => rfl) ⟨ea, eL, by rw [nfl_old q1]; exact ef, eat, Or.inr ?_⟩
    rw [nfl_old q1]; omega
