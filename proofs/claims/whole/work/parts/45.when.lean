theorem sp_then {p d : Int} {h : aH} {Q : Int → Prop} (hp : 0 ≤ p ∧ p < 4) (hd : 0 ≤ d ∧ d ≤ 1000) (hf : ∀ i, 0 ≤ i → i < 16 → 0 ≤ h 66 (1 + i) ∧ h 66 (1 + i) ≤ 9) (hg : ∀ i, 0 ≤ i → i < 16 → 0 ≤ h 64 i ∧ h 64 i ≤ 3) (k : Q (hv (h 62) (hld (fun i => h 66 (1 + i)) (h 64) d) p)) : wp_X9_heavinessThen p d h Q := by
  have hr : ∀ i, 0 ≤ i → i < 16 → inR (h 66 (1 + i) + d * h 64 i) := fun i h0 h1 => by
    have a := hf i h0 h1
    have b := hg i h0 h1
    have m := mul_bd (a := d) (b := h 64 i) (A := 1000) (B := 3) (by omega) (by omega) (by omega) (by omega)
    exact inR_of (by omega) (by omega)
  have hm : ∀ i, (if h 66 (1 + i) + d * h 64 i ≤ 9 then h 66 (1 + i) + d * h 64 i else 9) = hld (fun i => h 66 (1 + i)) (h 64) d i := fun i => by
    unfold hld
    rw [Int.mul_comm d]
    dsimp only
    split <;> omega
  have q0 : 1 + 4 * p + 0 = 1 + (4 * p) := by omega
  have q1 : 1 + 4 * p + (0 + 1) = 1 + (4 * p + 1) := by omega
  have q2 : 1 + 4 * p + (0 + 1 + 1) = 1 + (4 * p + 2) := by omega
  have q3 : 1 + 4 * p + (0 + 1 + 1 + 1) = 1 + (4 * p + 3) := by omega
  have p0 : 4 * p + 0 = 4 * p := by omega
  have p1 : 4 * p + (0 + 1) = 4 * p + 1 := by omega
  have p2 : 4 * p + (0 + 1 + 1) = 4 * p + 2 := by omega
  have p3 : 4 * p + (0 + 1 + 1 + 1) = 4 * p + 3 := by omega
  unfold wp_X9_heavinessThen
  refine ⟨5, ?_⟩
  simp only [lpN]
  unfold wp_X9_heavinessThen_B5
  refine ⟨inR_of (by omega) (by omega), fun q => by omega, fun _ => ⟨⟨by omega, by omega⟩, ⟨by omega, by omega⟩, ?_⟩⟩
  rintro _ rfl
  rw [q0, p0]
  refine ⟨⟨by omega, by omega⟩, ⟨hr _ (by omega) (by omega), trivial⟩, ?_⟩
  rw [hm]
  rintro _ rfl
  refine ⟨inR_of (by omega) (by omega), fun q => by omega, fun _ => ⟨⟨by omega, by omega⟩, ⟨by omega, by omega⟩, ?_⟩⟩
  rintro _ rfl
  rw [q1, p1]
  refine ⟨⟨by omega, by omega⟩, ⟨hr _ (by omega) (by omega), trivial⟩, ?_⟩
  rw [hm]
  rintro _ rfl
  refine ⟨inR_of (by omega) (by omega), fun q => by omega, fun _ => ⟨⟨by omega, by omega⟩, ⟨by omega, by omega⟩, ?_⟩⟩
  rintro _ rfl
  rw [q2, p2]
  refine ⟨⟨by omega, by omega⟩, ⟨hr _ (by omega) (by omega), trivial⟩, ?_⟩
  rw [hm]
  rintro _ rfl
  refine ⟨inR_of (by omega) (by omega), fun q => by omega, fun _ => ⟨⟨by omega, by omega⟩, ⟨by omega, by omega⟩, ?_⟩⟩
  rintro _ rfl
  rw [q3, p3]
  refine ⟨⟨by omega, by omega⟩, ⟨hr _ (by omega) (by omega), trivial⟩, ?_⟩
  rw [hm]
  rintro _ rfl
  refine ⟨inR_of (by omega) (by omega), fun _ => ?_, fun q => by omega⟩
  unfold hv at k
  rw [Int.zero_add]
  exact k
/-- the first of 0 .. 99 where c holds, and the answer -/
def WH (cd : Int → Prop) (day r : Int) : Prop := (∃ n, 0 ≤ n ∧ n ≤ 99 ∧ cd n ∧ (∀ m, 0 ≤ m → m < n → ¬ cd m) ∧ r = day + n) ∨ ((∀ m, 0 ≤ m → m ≤ 99 → ¬ cd m) ∧ r = -9)
theorem WH.one {cd : Int → Prop} {day r r' : Int} (a : WH cd day r) (b : WH cd day r') : r = r' := by
  rcases a with ⟨n, n0, n1, n2, n3, rfl⟩ | ⟨n1, rfl⟩
  · rcases b with ⟨m, m0, m1, m2, m3, rfl⟩ | ⟨m1, rfl⟩
    · rcases Int.lt_trichotomy n m with q | q | q
      · exact absurd n2 (m3 n n0 q)
      · omega
      · exact absurd m2 (n3 m m0 q)
    · exact absurd n2 (m1 n n0 n1)
  · rcases b with ⟨m, m0, m1, m2, m3, rfl⟩ | ⟨m1, rfl⟩
    · exact absurd m2 (n1 m m0 m1)
    · rfl
theorem hld_bd {f gr : Int → Int} {d : Int} (hd : 0 ≤ d ∧ d ≤ 1000) (hf : ∀ i, 0 ≤ i → i < 16 → 0 ≤ f i ∧ f i ≤ 9) (hg : ∀ i, 0 ≤ i → i < 16 → 0 ≤ gr i ∧ gr i ≤ 3) : ∀ i, 0 ≤ i → i < 16 → 0 ≤ hld f gr d i ∧ hld f gr d i ≤ 9 := fun i h0 h1 => by
  have a := hf i h0 h1
  have b := hg i h0 h1
  have m := mul_bd (a := gr i) (b := d) (A := 3) (B := 1000) (by omega) (by omega) (by omega) (by omega)
  unfold hld
  omega
theorem spC_when {x y : Int} {h : aH} {Q : Int → Prop} (hx : inR x) (hy : inR y) (hn : 0 ≤ h 3 4 ∧ h 3 4 ≤ 4) (hw : ∀ i, 0 ≤ i → i < 4 → 1 ≤ h 4 i ∧ h 4 i ≤ 20) (hf : ∀ i, 0 ≤ i → i < 16 → 0 ≤ h 14 i ∧ h 14 i ≤ 9) (hg : ∀ i, 0 ≤ i → i < 16 → 0 ≤ h 6 i ∧ h 6 i ≤ 3) (bad : ¬ ((0 ≤ x ∧ x < h 3 4) ∧ (0 ≤ y ∧ y < h 3 4) ∧ ¬ x = y) → Q (-1)) (good : ((0 ≤ x ∧ x < h 3 4) ∧ (0 ≤ y ∧ y < h 3 4) ∧ ¬ x = y) → ∀ r, WH (fun n => hv (h 4) (hld (h 14) (h 6) n) y < hv (h 4) (hld (h 14) (h 6) n) x) (h 13 1) r → Q r) : wp_X8_when x y h Q := by
  unfold wp_X8_when
  refine sp_pair hx hy hn (fun r1 hr1 => ⟨fun h0 => bad (by omega), fun h0 => ?_⟩)
  have G := good (by omega)
  refine lp.rule (μ := fun n => (101 - n).toNat) (I := fun n => 0 ≤ n ∧ n ≤ 100 ∧ ∀ m, 0 ≤ m → m < n → ¬ hv (h 4) (hld (h 14) (h 6) m) y < hv (h 4) (hld (h 14) (h 6) m) x) ?_ 0 ⟨by omega, by omega, fun m m0 m1 => by omega⟩
  rintro X n ⟨n0, n1, n2⟩ hX
  unfold wp_X8_when_B13
  refine ⟨inR_of (by omega) (by omega), fun q => G _ (Or.inr ⟨fun m m0 m1 => n2 m m0 (by omega), rfl⟩), fun q => ?_⟩
  refine sp_ahead (by omega) (by omega) hf hg (sp_ahead (by omega) (by omega) hf hg ?_)
  have b1 := hv_bd (p := x) (by omega) hw (hld_bd (d := n) (by omega) hf hg)
  have b2 := hv_bd (p := y) (by omega) hw (hld_bd (d := n) (by omega) hf hg)
  refine ⟨inR_of (by omega) (by omega), inR_of (by omega) (by omega), fun le => hX _ ⟨by omega, by omega, fun m m0 m1 => ?_⟩ (by omega), fun le => G _ (Or.inl ⟨n, n0, by omega, by omega, n2, rfl⟩)⟩
  by_cases hm : m = n
  · subst hm; omega
  · exact n2 m m0 (by omega)
theorem spM_when {x y n : Int} {h : aH} {Q : Int → aH → Prop} (hx : inR x) (hy : inR y) (hn : 0 ≤ n ∧ n ≤ 4) (e : h 61 0 = n) (hw : ∀ i, 0 ≤ i → i < 4 → 1 ≤ h 62 i ∧ h 62 i ≤ 20) (hf : ∀ i, 0 ≤ i → i < 16 → 0 ≤ h 66 (1 + i) ∧ h 66 (1 + i) ≤ 9) (hg : ∀ i, 0 ≤ i → i < 16 → 0 ≤ h 64 i ∧ h 64 i ≤ 3) (bad : ¬ ((0 ≤ x ∧ x < n) ∧ (0 ≤ y ∧ y < n) ∧ ¬ x = y) → Q (-1) (up h 59 0 0)) (good : ((0 ≤ x ∧ x < n) ∧ (0 ≤ y ∧ y < n) ∧ ¬ x = y) → ∀ r, WH (fun m => hv (h 62) (hld (fun i => h 66 (1 + i)) (h 64) m) y < hv (h 62) (hld (fun i => h 66 (1 + i)) (h 64) m) x) (h 66 0) r → Q r (up h 59 0 0)) : wp_X9_when x y h Q := by
  unfold wp_X9_when
  rintro _ rfl
  refine sp_pairM hx hy hn (by rw [up_ne (by decide)]; exact e) (fun r1 hr1 => ⟨fun h0 => bad (by omega), fun h0 => ?_⟩)
  have G := good (by omega)
  refine lp.rule (μ := fun k => (101 - k).toNat) (I := fun k => 0 ≤ k ∧ k ≤ 100 ∧ ∀ m, 0 ≤ m → m < k → ¬ hv (h 62) (hld (fun i => h 66 (1 + i)) (h 64) m) y < hv (h 62) (hld (fun i => h 66 (1 + i)) (h 64) m) x) ?_ 0 ⟨by omega, by omega, fun m m0 m1 => by omega⟩
  rintro X k ⟨n0, n1, n2⟩ hX
  unfold wp_X9_when_B18
  refine ⟨inR_of (by omega) (by omega), fun q => G _ (Or.inr ⟨fun m m0 m1 => n2 m m0 (by omega), rfl⟩), fun q => ?_⟩
  have f66 : (up h 59 0 0) 66 = h 66 := up_ne (by decide)
  have f64 : (up h 59 0 0) 64 = h 64 := up_ne (by decide)
  have f62 : (up h 59 0 0) 62 = h 62 := up_ne (by decide)
  refine sp_then (by omega) (by omega) (by rw [f66]; exact hf) (by rw [f64]; exact hg) (sp_then (by omega) (by omega) (by rw [f66]; exact hf) (by rw [f64]; exact hg) ?_)
  rw [f66, f64, f62]
  have b1 := hv_bd (p := x) (by omega) hw (hld_bd (d := k) (by omega) hf hg)
  have b2 := hv_bd (p := y) (by omega) hw (hld_bd (d := k) (by omega) hf hg)
  refine ⟨inR_of (by omega) (by omega), inR_of (by omega) (by omega), fun le => hX _ ⟨by omega, by omega, fun m m0 m1 => ?_⟩ (by omega), fun le => G _ (Or.inl ⟨k, n0, by omega, by omega, n2, rfl⟩)⟩
  by_cases hm : m = k
  · subst hm; omega
  · exact n2 m m0 (by omega)
theorem S_when {c x y : Int} {h : aH} {K : aH → Prop} (i : Inv c h) (hx : inR x) (hy : inR y) (hK : ∀ h', Inv (c + 1) h' → K h') : wp_X8_when x y h (fun r => wp_X9_when x y h (fun r2 h2 => inR r ∧ inR r2 ∧ ((r = r2 → K h2) ∧ (¬ r = r2 → False)))) := by
  obtain ⟨hn, hp, e1, e2, hw, hg, hb⟩ := i.2.1
  have im := i.2.2.1
  have hf' : ∀ j, 0 ≤ j → j < 16 → 0 ≤ h 66 (1 + j) ∧ h 66 (1 + j) ≤ 9 := fun j h0 h1 => by have := im.2.2.1 j h0 h1; omega
  have hg' : ∀ j, 0 ≤ j → j < 16 → 0 ≤ h 64 j ∧ h 64 j ≤ 3 := fun j h0 h1 => by have := hg j h0 h1; omega
  have hw' : ∀ j, 0 ≤ j → j < 4 → 1 ≤ h 62 j ∧ h 62 j ≤ 20 := fun j h0 h1 => by have := hw j h0 h1; omega
  refine spC_when hx hy hn (fun j h0 h1 => (hw j h0 h1).2) i.held i.grw (fun nq => ?_) (fun qq r hr => ?_)
  · exact spM_when hx hy hn e1 hw' hf' hg' (fun _ => fin_ok rfl (inR_of (by omega) (by omega)) (hK _ i.thr)) (fun qq => absurd qq nq)
  · refine spM_when hx hy hn e1 hw' hf' hg' (fun nq => absurd qq nq) (fun _ r2 hr2 => ?_)
    have ec : (fun m => hv (h 62) (hld (fun i => h 66 (1 + i)) (h 64) m) y < hv (h 62) (hld (fun i => h 66 (1 + i)) (h 64) m) x) = fun m => hv (h 4) (hld (h 14) (h 6) m) y < hv (h 4) (hld (h 14) (h 6) m) x := by
      funext m
      have E : ∀ p, 0 ≤ p ∧ p < 4 → hv (h 62) (hld (fun i => h 66 (1 + i)) (h 64) m) p = hv (h 4) (hld (h 14) (h 6) m) p := fun p hp => hv_cong hp (fun j h0 h1 => (hw j h0 h1).1) (fun j h0 h1 => by unfold hld; rw [(hg j h0 h1).1]; dsimp only; rw [(im.2.2.1 j h0 h1).1])
      rw [E x (by omega), E y (by omega)]
    rw [ec, im.2.1] at hr2
    refine fin_ok (hr.one hr2) ?_ (hK _ i.thr)
    have := im.1
    rcases hr with ⟨n, n0, n1, -, -, rfl⟩ | ⟨-, rfl⟩
    · exact inR_of (by omega) (by omega)
    · exact inR_of (by omega) (by omega)
