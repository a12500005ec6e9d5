theorem fin_ok {r r2 : Int} {A : Prop} (e : r = r2) (hr : inR r) (a : A) : inR r ∧ inR r2 ∧ ((r = r2 → A) ∧ (¬ r = r2 → False)) := ⟨hr, e ▸ hr, fun _ => a, fun q => q e⟩
theorem inR_of {x : Int} (h1 : -2147483648 ≤ x) (h2 : x < 2147483648) : inR x := ⟨h1, h2⟩
theorem sp_within {x y z : Int} {h : aH} {Q : Int → Prop} (hx : inR x) (hy : inR y) (hz : inR z) (k : ∀ r, (r = 0 ∧ ¬ (y ≤ x ∧ x ≤ z)) ∨ (r = 1 ∧ y ≤ x ∧ x ≤ z) → Q r) : wp_X8_within x y z h Q := by
  unfold wp_X8_within
  refine ⟨⟨hx, hy, fun _ => trivial, fun _ => ⟨hz, trivial⟩⟩, k _ ?_⟩
  by_cases h1 : x < y
  · rw [if_pos h1]; exact Or.inl ⟨rfl, by omega⟩
  · rw [if_neg h1]
    by_cases h2 : z < x
    · rw [if_pos h2]; exact Or.inl ⟨rfl, by omega⟩
    · rw [if_neg h2]; exact Or.inr ⟨rfl, by omega, by omega⟩
theorem sp_in {x y z : Int} {h : aH} {Q : Int → Prop} (hx : inR x) (hy : inR y) (hz : inR z) (k : ∀ r, (r = 0 ∧ ¬ (y ≤ x ∧ x ≤ z)) ∨ (r = 1 ∧ y ≤ x ∧ x ≤ z) → Q r) : wp_X9_in x y z h Q := by
  unfold wp_X9_in
  refine ⟨⟨hx, hy, fun _ => trivial, fun _ => ⟨hz, trivial⟩⟩, k _ ?_⟩
  by_cases h1 : x < y
  · rw [if_pos h1]; exact Or.inl ⟨rfl, by omega⟩
  · rw [if_neg h1]
    by_cases h2 : z < x
    · rw [if_pos h2]; exact Or.inl ⟨rfl, by omega⟩
    · rw [if_neg h2]; exact Or.inr ⟨rfl, by omega, by omega⟩
/-- a test in two: no, and yes -/
theorem sp_within2 {x y z : Int} {h : aH} {A B : Prop} (hx : inR x) (hy : inR y) (hz : inR z) (a : ¬ (y ≤ x ∧ x ≤ z) → A) (b : y ≤ x → x ≤ z → B) : wp_X8_within x y z h (fun r => (r = 0 → A) ∧ (¬ r = 0 → B)) :=
  sp_within hx hy hz (fun r hr => ⟨fun h0 => a (by rcases hr with q | q <;> omega), fun h0 => by rcases hr with q | q <;> first | exact absurd q.1 h0 | exact b q.2.1 q.2.2⟩)
theorem sp_in2 {x y z : Int} {h : aH} {A B : Prop} (hx : inR x) (hy : inR y) (hz : inR z) (a : ¬ (y ≤ x ∧ x ≤ z) → A) (b : y ≤ x → x ≤ z → B) : wp_X9_in x y z h (fun r => (r = 0 → A) ∧ (¬ r = 0 → B)) :=
  sp_in hx hy hz (fun r hr => ⟨fun h0 => a (by rcases hr with q | q <;> omega), fun h0 => by rcases hr with q | q <;> first | exact absurd q.1 h0 | exact b q.2.1 q.2.2⟩)
theorem sp_person {x : Int} {h : aH} {Q : Int → Prop} (hx : inR x) (hn : 0 ≤ h 3 4 ∧ h 3 4 ≤ 4) (k : ∀ r, (r = 0 ∧ ¬ (0 ≤ x ∧ x < h 3 4)) ∨ (r = 1 ∧ 0 ≤ x ∧ x < h 3 4) → Q r) : wp_X8_isPerson x h Q := by
  unfold wp_X8_isPerson
  exact sp_within hx inR0 (inR_of (by omega) (by omega)) (fun r hr => k r (by omega))
theorem sp_personM {x n : Int} {h : aH} {Q : Int → Prop} (hx : inR x) (hn : 0 ≤ n ∧ n ≤ 4) (e : h 61 0 = n) (k : ∀ r, (r = 0 ∧ ¬ (0 ≤ x ∧ x < n)) ∨ (r = 1 ∧ 0 ≤ x ∧ x < n) → Q r) : wp_X9_isPerson x h Q := by
  unfold wp_X9_isPerson
  rw [e]
  exact sp_in hx inR0 (inR_of (by omega) (by omega)) (fun r hr => k r (by omega))
theorem sp_sort {x : Int} {h : aH} {Q : Int → Prop} (hx : inR x) (k : ∀ r, (r = 0 ∧ ¬ (0 ≤ x ∧ x < 4)) ∨ (r = 1 ∧ 0 ≤ x ∧ x < 4) → Q r) : wp_X8_isSort x h Q := by
  unfold wp_X8_isSort
  exact sp_within hx inR0 (inR_of (by omega) (by omega)) (fun r hr => k r (by omega))
theorem sp_sortM {x : Int} {h : aH} {Q : Int → Prop} (hx : inR x) (k : ∀ r, (r = 0 ∧ ¬ (0 ≤ x ∧ x < 4)) ∨ (r = 1 ∧ 0 ≤ x ∧ x < 4) → Q r) : wp_X9_isSort x h Q := by
  unfold wp_X9_isSort
  exact sp_in hx inR0 (inR_of (by omega) (by omega)) (fun r hr => k r (by omega))
theorem sp_pair {x y : Int} {h : aH} {Q : Int → Prop} (hx : inR x) (hy : inR y) (hn : 0 ≤ h 3 4 ∧ h 3 4 ≤ 4) (k : ∀ r, (r = 0 ∧ ¬ ((0 ≤ x ∧ x < h 3 4) ∧ (0 ≤ y ∧ y < h 3 4) ∧ ¬ x = y)) ∨ (r = 1 ∧ (0 ≤ x ∧ x < h 3 4) ∧ (0 ≤ y ∧ y < h 3 4) ∧ ¬ x = y) → Q r) : wp_X8_isPair x y h Q := by
  unfold wp_X8_isPair
  refine sp_person hx hn (fun r hr => ⟨fun h0 => k 0 (by omega), fun h0 => sp_person hy hn (fun r3 h3 => ⟨⟨fun _ => trivial, fun _ => ⟨hx, hy, trivial⟩⟩, k _ ?_⟩)⟩)
  by_cases q : r3 = 0
  · rw [if_pos q]; omega
  · rw [if_neg q]
    by_cases q2 : x = y
    · rw [if_pos q2]; omega
    · rw [if_neg q2]; omega
theorem sp_pairM {x y n : Int} {h : aH} {Q : Int → Prop} (hx : inR x) (hy : inR y) (hn : 0 ≤ n ∧ n ≤ 4) (e : h 61 0 = n) (k : ∀ r, (r = 0 ∧ ¬ ((0 ≤ x ∧ x < n) ∧ (0 ≤ y ∧ y < n) ∧ ¬ x = y)) ∨ (r = 1 ∧ (0 ≤ x ∧ x < n) ∧ (0 ≤ y ∧ y < n) ∧ ¬ x = y) → Q r) : wp_X9_isPair x y h Q := by
  unfold wp_X9_isPair
  refine sp_personM hx hn e (fun r hr => ⟨fun h0 => k 0 (by omega), fun h0 => sp_personM hy hn e (fun r3 h3 => ⟨⟨fun _ => trivial, fun _ => ⟨hx, hy, trivial⟩⟩, k _ ?_⟩)⟩)
  by_cases q : r3 = 0
  · rw [if_pos q]; omega
  · rw [if_neg q]
    by_cases q2 : x = y
    · rw [if_pos q2]; omega
    · rw [if_neg q2]; omega
/-- heaviness: weights w, what is held f -/
def hv (w f : Int → Int) (p : Int) : Int := w 0 * f (4 * p) + w 1 * f (4 * p + 1) + w 2 * f (4 * p + 2) + w 3 * f (4 * p + 3)
theorem sp_heavinessM {p : Int} {h : aH} {Q : Int → Prop} (hp : 0 ≤ p ∧ p < 4) (k : Q (hv (h 62) (fun i => h 66 (1 + i)) p)) : wp_X9_heaviness p h Q := by
  unfold wp_X9_heaviness
  refine ⟨5, ?_⟩
  simp only [lpN]
  unfold wp_X9_heaviness_B4
  refine ⟨inR_of (by omega) (by omega), fun q => by omega, fun _ => ⟨⟨by omega, by omega⟩, ⟨by omega, by omega⟩, ?_⟩⟩
  rintro _ rfl
  refine ⟨inR_of (by omega) (by omega), fun q => by omega, fun _ => ⟨⟨by omega, by omega⟩, ⟨by omega, by omega⟩, ?_⟩⟩
  rintro _ rfl
  refine ⟨inR_of (by omega) (by omega), fun q => by omega, fun _ => ⟨⟨by omega, by omega⟩, ⟨by omega, by omega⟩, ?_⟩⟩
  rintro _ rfl
  refine ⟨inR_of (by omega) (by omega), fun q => by omega, fun _ => ⟨⟨by omega, by omega⟩, ⟨by omega, by omega⟩, ?_⟩⟩
  rintro _ rfl
  refine ⟨inR_of (by omega) (by omega), fun _ => ?_, fun q => by omega⟩
  have e : ∀ a b c d : Int, 0 + a + b + c + d = a + b + c + d := fun a b c d => by omega
  have k2 : (0 + h 62 0 * h 66 (1 + 4 * p + 0) + h 62 (0 + 1) * h 66 (1 + 4 * p + (0 + 1)) + h 62 (0 + 1 + 1) * h 66 (1 + 4 * p + (0 + 1 + 1)) + h 62 (0 + 1 + 1 + 1) * h 66 (1 + 4 * p + (0 + 1 + 1 + 1))) = hv (h 62) (fun i => h 66 (1 + i)) p := by
    unfold hv
    rw [e]
    congr 1
    · congr 1
      · congr 1
        · congr 2; omega
        · congr 2 <;> omega
      · congr 2 <;> omega
    · congr 2 <;> omega
  rw [k2]
  exact k
theorem hv_cong {w w' f f' : Int → Int} {p : Int} (hp : 0 ≤ p ∧ p < 4) (hw : ∀ i, 0 ≤ i → i < 4 → w' i = w i) (hf : ∀ i, 0 ≤ i → i < 16 → f' i = f i) : hv w' f' p = hv w f p := by
  unfold hv
  rw [hw 0 (by omega) (by omega), hw 1 (by omega) (by omega), hw 2 (by omega) (by omega), hw 3 (by omega) (by omega), hf (4 * p) (by omega) (by omega), hf (4 * p + 1) (by omega) (by omega), hf (4 * p + 2) (by omega) (by omega), hf (4 * p + 3) (by omega) (by omega)]
theorem mul_bd {a b A B : Int} (h0 : 0 ≤ a) (h1 : a ≤ A) (h2 : 0 ≤ b) (h3 : b ≤ B) : 0 ≤ a * b ∧ a * b ≤ A * B := ⟨Int.mul_nonneg h0 h2, Int.mul_le_mul h1 h3 h2 (by omega)⟩
theorem hv_bd {w f : Int → Int} {p : Int} (hp : 0 ≤ p ∧ p < 4) (hw : ∀ i, 0 ≤ i → i < 4 → 1 ≤ w i ∧ w i ≤ 20) (hf : ∀ i, 0 ≤ i → i < 16 → 0 ≤ f i ∧ f i ≤ 9) : 0 ≤ hv w f p ∧ hv w f p ≤ 720 := by
  unfold hv
  have w0 := hw 0 (by omega) (by omega)
  have w1 := hw 1 (by omega) (by omega)
  have w2 := hw 2 (by omega) (by omega)
  have w3 := hw 3 (by omega) (by omega)
  have f0 := hf (4 * p) (by omega) (by omega)
  have f1 := hf (4 * p + 1) (by omega) (by omega)
  have f2 := hf (4 * p + 2) (by omega) (by omega)
  have f3 := hf (4 * p + 3) (by omega) (by omega)
  have m0 := mul_bd (a := w 0) (b := f (4 * p)) (A := 20) (B := 9) (by omega) (by omega) (by omega) (by omega)
  have m1 := mul_bd (a := w 1) (b := f (4 * p + 1)) (A := 20) (B := 9) (by omega) (by omega) (by omega) (by omega)
  have m2 := mul_bd (a := w 2) (b := f (4 * p + 2)) (A := 20) (B := 9) (by omega) (by omega) (by omega) (by omega)
  have m3 := mul_bd (a := w 3) (b := f (4 * p + 3)) (A := 20) (B := 9) (by omega) (by omega) (by omega) (by omega)
  omega
/-- what one holds some days on -/
def hld (f gr : Int → Int) (d : Int) : Int → Int := fun i => min 9 (f i + gr i * d)
theorem sp_ahead {p d : Int} {h : aH} {Q : Int → Prop} (hp : 0 ≤ p ∧ p < 4) (hd : 0 ≤ d ∧ d ≤ 1000) (hf : ∀ i, 0 ≤ i → i < 16 → 0 ≤ h 14 i ∧ h 14 i ≤ 9) (hg : ∀ i, 0 ≤ i → i < 16 → 0 ≤ h 6 i ∧ h 6 i ≤ 3) (k : Q (hv (h 4) (hld (h 14) (h 6) d) p)) : wp_X8_heavinessAhead p d h Q := by
  have hr : ∀ i, 0 ≤ i → i < 16 → inR (h 14 i + h 6 i * d) := fun i h0 h1 => by
    have a := hf i h0 h1
    have b := hg i h0 h1
    have m := mul_bd (a := h 6 i) (b := d) (A := 3) (B := 1000) (by omega) (by omega) (by omega) (by omega)
    exact inR_of (by omega) (by omega)
  unfold wp_X8_heavinessAhead
  refine ⟨5, ?_⟩
  simp only [lpN]
  unfold wp_X8_heavinessAhead_B5
  refine ⟨inR_of (by omega) (by omega), fun q => by omega, fun _ => ?_⟩
  rintro _ rfl
  refine ⟨⟨by omega, by omega⟩, hr _ (by omega) (by omega), ?_⟩
  rintro _ rfl
  refine ⟨⟨by omega, by omega⟩, ?_⟩
  rintro _ rfl
  refine ⟨inR_of (by omega) (by omega), fun q => by omega, fun _ => ?_⟩
  rintro _ rfl
  refine ⟨⟨by omega, by omega⟩, hr _ (by omega) (by omega), ?_⟩
  rintro _ rfl
  refine ⟨⟨by omega, by omega⟩, ?_⟩
  rintro _ rfl
  refine ⟨inR_of (by omega) (by omega), fun q => by omega, fun _ => ?_⟩
  rintro _ rfl
  refine ⟨⟨by omega, by omega⟩, hr _ (by omega) (by omega), ?_⟩
  rintro _ rfl
  refine ⟨⟨by omega, by omega⟩, ?_⟩
  rintro _ rfl
  refine ⟨inR_of (by omega) (by omega), fun q => by omega, fun _ => ?_⟩
  rintro _ rfl
  refine ⟨⟨by omega, by omega⟩, hr _ (by omega) (by omega), ?_⟩
  rintro _ rfl
  refine ⟨⟨by omega, by omega⟩, ?_⟩
  rintro _ rfl
  refine ⟨inR_of (by omega) (by omega), fun _ => ?_, fun q => by omega⟩
  have e : ∀ a b c d : Int, 0 + a + b + c + d = a + b + c + d := fun a b c d => by omega
  have k2 : (0 + h 4 0 * min 9 (h 14 (p * 4 + 0) + h 6 (p * 4 + 0) * d) + h 4 (0 + 1) * min 9 (h 14 (p * 4 + (0 + 1)) + h 6 (p * 4 + (0 + 1)) * d) + h 4 (0 + 1 + 1) * min 9 (h 14 (p * 4 + (0 + 1 + 1)) + h 6 (p * 4 + (0 + 1 + 1)) * d) + h 4 (0 + 1 + 1 + 1) * min 9 (h 14 (p * 4 + (0 + 1 + 1 + 1)) + h 6 (p * 4 + (0 + 1 + 1 + 1)) * d)) = hv (h 4) (hld (h 14) (h 6) d) p := by
    unfold hv hld
    rw [e, show p * 4 + 0 = 4 * p by omega, show p * 4 + (0 + 1) = 4 * p + 1 by omega, show p * 4 + (0 + 1 + 1) = 4 * p + 2 by omega, show p * 4 + (0 + 1 + 1 + 1) = 4 * p + 3 by omega]
    rfl
  rw [k2]
  exact k
theorem hld0 {f gr : Int → Int} {i : Int} (hf : f i ≤ 9) : hld f gr 0 i = f i := by
  unfold hld
  rw [Int.mul_zero, Int.add_zero]
  omega
theorem sp_heavi {p : Int} {h : aH} {Q : Int → Prop} (hp : 0 ≤ p ∧ p < 4) (hf : ∀ i, 0 ≤ i → i < 16 → 0 ≤ h 14 i ∧ h 14 i ≤ 9) (hg : ∀ i, 0 ≤ i → i < 16 → 0 ≤ h 6 i ∧ h 6 i ≤ 3) (k : Q (hv (h 4) (h 14) p)) : wp_X8_heavinessOf p h Q := by
  unfold wp_X8_heavinessOf
  refine sp_ahead hp (by omega) hf hg ?_
  have e : hv (h 4) (hld (h 14) (h 6) 0) p = hv (h 4) (h 14) p := hv_cong hp (fun _ _ _ => rfl) (fun i h0 h1 => hld0 (hf i h0 h1).2)
  rw [e]
  exact k
