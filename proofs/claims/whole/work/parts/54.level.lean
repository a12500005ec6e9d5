-- level: fewest things that weigh v
def TW (w C : Int → Int) : Int := C 0 * w 0 + C 1 * w 1 + C 2 * w 2 + C 3 * w 3
def RR (w C : Int → Int) (v n : Int) : Prop := ∃ a0 a1 a2 a3 : Int, ((0 ≤ a0 ∧ a0 ≤ C 0) ∧ (0 ≤ a1 ∧ a1 ≤ C 1) ∧ (0 ≤ a2 ∧ a2 ≤ C 2) ∧ 0 ≤ a3 ∧ a3 ≤ C 3) ∧ a0 * w 0 + a1 * w 1 + a2 * w 2 + a3 * w 3 = v ∧ a0 + a1 + a2 + a3 = n
theorem RR.bd {w C : Int → Int} {v n : Int} (h : RR w C v n) (hw : ∀ i, 0 ≤ i → i < 4 → 1 ≤ w i) : (0 ≤ n ∧ n ≤ C 0 + C 1 + C 2 + C 3) ∧ 0 ≤ v ∧ v ≤ TW w C := by
  obtain ⟨a0, a1, a2, a3, ⟨b0, b1, b2, b3⟩, e1, e2⟩ := h
  have w0 := hw 0 (by omega) (by omega)
  have w1 := hw 1 (by omega) (by omega)
  have w2 := hw 2 (by omega) (by omega)
  have w3 := hw 3 (by omega) (by omega)
  have m0 := mul_bd (a := a0) (b := w 0) (A := C 0) (B := w 0) b0.1 b0.2 (by omega) (by omega)
  have m1 := mul_bd (a := a1) (b := w 1) (A := C 1) (B := w 1) b1.1 b1.2 (by omega) (by omega)
  have m2 := mul_bd (a := a2) (b := w 2) (A := C 2) (B := w 2) b2.1 b2.2 (by omega) (by omega)
  have m3 := mul_bd (a := a3) (b := w 3) (A := C 3) (B := w 3) b3.1 b3.2 (by omega) (by omega)
  unfold TW
  omega
def addC (C : Int → Int) (i s : Int) : Int → Int := fun j => if j = i then C j + s else C j
theorem four {p : Int → Prop} {i : Int} (hi : 0 ≤ i ∧ i < 4) (h0 : p 0) (h1 : p 1) (h2 : p 2) (h3 : p 3) : p i := by
  rcases (show i = 0 ∨ i = 1 ∨ i = 2 ∨ i = 3 by omega) with rfl | rfl | rfl | rfl <;> assumption
theorem addC_0 {C : Int → Int} {s : Int} : addC C 0 s 0 = C 0 + s ∧ addC C 0 s 1 = C 1 ∧ addC C 0 s 2 = C 2 ∧ addC C 0 s 3 = C 3 := ⟨rfl, rfl, rfl, rfl⟩
theorem addC_1 {C : Int → Int} {s : Int} : addC C 1 s 0 = C 0 ∧ addC C 1 s 1 = C 1 + s ∧ addC C 1 s 2 = C 2 ∧ addC C 1 s 3 = C 3 := ⟨rfl, rfl, rfl, rfl⟩
theorem addC_2 {C : Int → Int} {s : Int} : addC C 2 s 0 = C 0 ∧ addC C 2 s 1 = C 1 ∧ addC C 2 s 2 = C 2 + s ∧ addC C 2 s 3 = C 3 := ⟨rfl, rfl, rfl, rfl⟩
theorem addC_3 {C : Int → Int} {s : Int} : addC C 3 s 0 = C 0 ∧ addC C 3 s 1 = C 1 ∧ addC C 3 s 2 = C 2 ∧ addC C 3 s 3 = C 3 + s := ⟨rfl, rfl, rfl, rfl⟩
theorem TW_add {w C : Int → Int} {i s : Int} (hi : 0 ≤ i ∧ i < 4) : TW w (addC C i s) = TW w C + s * w i := by
  refine four (p := fun i => TW w (addC C i s) = TW w C + s * w i) hi ?_ ?_ ?_ ?_
  · unfold TW; obtain ⟨e0, e1, e2, e3⟩ := addC_0 (C := C) (s := s); rw [e0, e1, e2, e3, Int.add_mul]; omega
  · unfold TW; obtain ⟨e0, e1, e2, e3⟩ := addC_1 (C := C) (s := s); rw [e0, e1, e2, e3, Int.add_mul]; omega
  · unfold TW; obtain ⟨e0, e1, e2, e3⟩ := addC_2 (C := C) (s := s); rw [e0, e1, e2, e3, Int.add_mul]; omega
  · unfold TW; obtain ⟨e0, e1, e2, e3⟩ := addC_3 (C := C) (s := s); rw [e0, e1, e2, e3, Int.add_mul]; omega
theorem RR_add {w C : Int → Int} {i s v n : Int} (hi : 0 ≤ i ∧ i < 4) (hs : 1 ≤ s) (hc : s ≤ C i + 1) : RR w (addC C i s) v n ↔ RR w C v n ∨ RR w C (v - s * w i) (n - s) := by
  revert hc
  refine four (p := fun i => s ≤ C i + 1 → (RR w (addC C i s) v n ↔ RR w C v n ∨ RR w C (v - s * w i) (n - s))) hi ?_ ?_ ?_ ?_ <;> intro hc
  · unfold RR
    obtain ⟨e0, e1, e2, e3⟩ := addC_0 (C := C) (s := s)
    rw [e0, e1, e2, e3]
    constructor
    · rintro ⟨a0, a1, a2, a3, b, e, f⟩
      by_cases q : a0 ≤ C 0
      · exact Or.inl ⟨a0, a1, a2, a3, by omega, e, f⟩
      · exact Or.inr ⟨a0 - s, a1, a2, a3, by omega, by rw [Int.sub_mul]; omega, by omega⟩
    · rintro (⟨a0, a1, a2, a3, b, e, f⟩ | ⟨a0, a1, a2, a3, b, e, f⟩)
      · exact ⟨a0, a1, a2, a3, by omega, e, f⟩
      · exact ⟨a0 + s, a1, a2, a3, by omega, by rw [Int.add_mul]; omega, by omega⟩
  · unfold RR
    obtain ⟨e0, e1, e2, e3⟩ := addC_1 (C := C) (s := s)
    rw [e0, e1, e2, e3]
    constructor
    · rintro ⟨a0, a1, a2, a3, b, e, f⟩
      by_cases q : a1 ≤ C 1
      · exact Or.inl ⟨a0, a1, a2, a3, by omega, e, f⟩
      · exact Or.inr ⟨a0, a1 - s, a2, a3, by omega, by rw [Int.sub_mul]; omega, by omega⟩
    · rintro (⟨a0, a1, a2, a3, b, e, f⟩ | ⟨a0, a1, a2, a3, b, e, f⟩)
      · exact ⟨a0, a1, a2, a3, by omega, e, f⟩
      · exact ⟨a0, a1 + s, a2, a3, by omega, by rw [Int.add_mul]; omega, by omega⟩
  · unfold RR
    obtain ⟨e0, e1, e2, e3⟩ := addC_2 (C := C) (s := s)
    rw [e0, e1, e2, e3]
    constructor
    · rintro ⟨a0, a1, a2, a3, b, e, f⟩
      by_cases q : a2 ≤ C 2
      · exact Or.inl ⟨a0, a1, a2, a3, by omega, e, f⟩
      · exact Or.inr ⟨a0, a1, a2 - s, a3, by omega, by rw [Int.sub_mul]; omega, by omega⟩
    · rintro (⟨a0, a1, a2, a3, b, e, f⟩ | ⟨a0, a1, a2, a3, b, e, f⟩)
      · exact ⟨a0, a1, a2, a3, by omega, e, f⟩
      · exact ⟨a0, a1, a2 + s, a3, by omega, by rw [Int.add_mul]; omega, by omega⟩
  · unfold RR
    obtain ⟨e0, e1, e2, e3⟩ := addC_3 (C := C) (s := s)
    rw [e0, e1, e2, e3]
    constructor
    · rintro ⟨a0, a1, a2, a3, b, e, f⟩
      by_cases q : a3 ≤ C 3
      · exact Or.inl ⟨a0, a1, a2, a3, by omega, e, f⟩
      · exact Or.inr ⟨a0, a1, a2, a3 - s, by omega, by rw [Int.sub_mul]; omega, by omega⟩
    · rintro (⟨a0, a1, a2, a3, b, e, f⟩ | ⟨a0, a1, a2, a3, b, e, f⟩)
      · exact ⟨a0, a1, a2, a3, by omega, e, f⟩
      · exact ⟨a0, a1, a2, a3 + s, by omega, by rw [Int.add_mul]; omega, by omega⟩
def FM (w C F : Int → Int) : Prop := ∀ v : Int, 0 ≤ v → v ≤ 720 → (F v = 1000 ∧ ∀ n, ¬ RR w C v n) ∨ (RR w C v (F v) ∧ (0 ≤ F v ∧ F v ≤ 36) ∧ ∀ n, RR w C v n → F v ≤ n)
theorem FM.step {w C F F' : Int → Int} {i s : Int} (h : FM w C F) (hw : ∀ i, 0 ≤ i → i < 4 → 1 ≤ w i) (hi : 0 ≤ i ∧ i < 4) (hs : 1 ≤ s) (hc : s ≤ C i + 1) (hb : addC C i s 0 + addC C i s 1 + addC C i s 2 + addC C i s 3 ≤ 36) (hF : ∀ v : Int, 0 ≤ v → v ≤ 720 → F' v = if s * w i ≤ v ∧ v ≤ TW w (addC C i s) then min (F v) (F (v - s * w i) + s) else F v) : FM w (addC C i s) F' := by
  intro v v0 v1
  rw [hF v v0 v1]
  have iff := fun n => RR_add (w := w) (C := C) (v := v) (n := n) hi hs hc
  have bd := fun {n} (z : RR w (addC C i s) v n) => z.bd hw
  have wi := hw i hi.1 hi.2
  have sw : 1 ≤ s * w i := by have := mul_bd (a := 1) (b := 1) (A := s) (B := w i) (by omega) hs (by omega) wi; omega
  by_cases q : s * w i ≤ v ∧ v ≤ TW w (addC C i s)
  · rw [if_pos q]
    have sub : ∀ n, RR w C (v - s * w i) n ↔ RR w C (v - s * w i) (n + s - s) := fun n => by rw [show n + s - s = n by omega]
    rcases h v v0 v1 with ⟨a1, a2⟩ | ⟨a1, a2, a3⟩
    · rcases h (v - s * w i) (by omega) (by omega) with ⟨b1, b2⟩ | ⟨b1, b2, b3⟩
      · refine Or.inl ⟨by omega, fun n z => ?_⟩
        rcases (iff n).mp z with z | z
        · exact a2 n z
        · exact b2 _ z
      · have e : min (F v) (F (v - s * w i) + s) = F (v - s * w i) + s := by have := bd ((iff (F (v - s * w i) + s)).mpr (Or.inr ((sub _).mp b1))); omega
        rw [e]
        have r : RR w (addC C i s) v (F (v - s * w i) + s) := (iff _).mpr (Or.inr ((sub _).mp b1))
        refine Or.inr ⟨r, by have := bd r; omega, fun n z => ?_⟩
        rcases (iff n).mp z with z | z
        · exact absurd z (a2 n)
        · have := b3 _ z; omega
    · rcases h (v - s * w i) (by omega) (by omega) with ⟨b1, b2⟩ | ⟨b1, b2, b3⟩
      · rw [show min (F v) (F (v - s * w i) + s) = F v by omega]
        refine Or.inr ⟨(iff _).mpr (Or.inl a1), a2, fun n z => ?_⟩
        rcases (iff n).mp z with z | z
        · exact a3 n z
        · exact absurd z (b2 _)
      · have r : RR w (addC C i s) v (min (F v) (F (v - s * w i) + s)) := by
          by_cases q2 : F v ≤ F (v - s * w i) + s
          · rw [show min (F v) (F (v - s * w i) + s) = F v by omega]; exact (iff _).mpr (Or.inl a1)
          · rw [show min (F v) (F (v - s * w i) + s) = F (v - s * w i) + s by omega]; exact (iff _).mpr (Or.inr ((sub _).mp b1))
        refine Or.inr ⟨r, by have := bd r; omega, fun n z => ?_⟩
        rcases (iff n).mp z with z | z
        · have := a3 n z; omega
        · have := b3 _ z; omega
  · rw [if_neg q]
    have no : ∀ n, RR w (addC C i s) v n → RR w C v n := fun n z => by
      rcases (iff n).mp z with z' | z'
      · exact z'
      · have := z'.bd hw
        have := bd z
        omega
    rcases h v v0 v1 with ⟨a1, a2⟩ | ⟨a1, a2, a3⟩
    · exact Or.inl ⟨a1, fun n z => a2 n (no n z)⟩
    · exact Or.inr ⟨(iff _).mpr (Or.inl a1), a2, fun n z => a3 n (no n z)⟩
theorem FM.rng {w C F : Int → Int} (h : FM w C F) {v : Int} (v0 : 0 ≤ v) (v1 : v ≤ 720) : 0 ≤ F v ∧ F v ≤ 1000 := by
  rcases h v v0 v1 with a | a <;> omega
theorem sp_offer {k : Nat} {tot sw s : Int} {h : aH} {Q : aH → Prop} (hsw : 1 ≤ sw) (ht : sw ≤ tot ∧ tot ≤ 720) (hs : 1 ≤ s ∧ s ≤ 9) (hv' : ∀ v, 0 ≤ v → v ≤ 720 → 0 ≤ h k v ∧ h k v ≤ 1000) (kk : ∀ h', (∀ c, c ≠ k → h' c = h c) → (∀ v, 0 ≤ v → v ≤ 720 → h' k v = if sw ≤ v ∧ v ≤ tot then min (h k v) (h k (v - sw) + s) else h k v) → Q h') : wp_X3_offerBundle k tot sw s h Q := by
  unfold wp_X3_offerBundle
  refine lp.rule (μ := fun z => (z.1 + 1).toNat) (I := fun z => (sw - 1 ≤ z.1 ∧ z.1 ≤ tot) ∧ (∀ c, c ≠ k → z.2 c = h c) ∧ ∀ v : Int, 0 ≤ v → v ≤ 720 → z.2 k v = if z.1 < v ∧ v ≤ tot then min (h k v) (h k (v - sw) + s) else h k v) ?_ (tot, h) ⟨⟨by dsimp only; omega, by dsimp only; omega⟩, fun _ _ => rfl, fun v v0 v1 => by dsimp only; rw [if_neg (by omega)]⟩
  rintro X ⟨t, g⟩ ⟨⟨t0, t1⟩, g1, g2⟩ hX
  dsimp only at t0 t1 g1 g2 ⊢
  unfold wp_X3_offerBundle_B3 wp_X3_offerBundle_J34
  refine ⟨inR_of (by omega) (by omega), inR_of (by omega) (by omega), fun q => kk g g1 (fun v v0 v1 => ?_), fun q => ⟨⟨by omega, by omega⟩, ?_⟩⟩
  · rw [g2 v v0 v1]
    by_cases z : sw ≤ v ∧ v ≤ tot
    · rw [if_pos z, if_pos (by omega)]
    · rw [if_neg z, if_neg (by omega)]
  · have e1 : g k (t - sw) = h k (t - sw) := by rw [g2 _ (by omega) (by omega), if_neg (by omega)]
    have e2 : g k t = h k t := by rw [g2 _ (by omega) (by omega), if_neg (by omega)]
    have r1 := hv' (t - sw) (by omega) (by omega)
    have r2 := hv' t (by omega) (by omega)
    rintro _ rfl
    rw [e1, e2]
    refine ⟨⟨by omega, by omega⟩, inR_of (by omega) (by omega), inR_of (by omega) (by omega), fun q2 => ?_, fun q2 => ?_⟩
    · refine hX _ ⟨⟨by dsimp only; omega, by dsimp only; omega⟩, g1, fun v v0 v1 => ?_⟩ (by dsimp only; omega)
      dsimp only
      rw [g2 v v0 v1]
      by_cases z : v = t
      · rw [if_neg (by omega), if_pos (by omega), z]; omega
      · by_cases z2 : t < v ∧ v ≤ tot
        · rw [if_pos z2, if_pos (by omega)]
        · rw [if_neg z2, if_neg (by omega)]
    · rintro _ rfl
      refine hX _ ⟨⟨by dsimp only; omega, by dsimp only; omega⟩, fun c hc => ?_, fun v v0 v1 => ?_⟩ (by dsimp only; omega)
      · dsimp only; rw [up_ne hc, g1 c hc]
      · dsimp only
        rw [up_eq]
        by_cases z : v = t
        · rw [if_pos z, if_pos (by omega), z]; omega
        · rw [if_neg z, g2 v v0 v1]
          by_cases z2 : t < v ∧ v ≤ tot
          · rw [if_pos z2, if_pos (by omega)]
          · rw [if_neg z2, if_neg (by omega)]
/-- what is held of the sorts below i, and m of sort i -/
def capC (f : Int → Int) (p i m : Int) : Int → Int := fun j => if j < i then f (4 * p + j) else if j = i then m else 0
theorem addC_cap {f : Int → Int} {p i m s : Int} : addC (capC f p i m) i s = capC f p i (m + s) := by
  funext j
  unfold addC capC
  by_cases q : j = i
  · rw [if_pos q, if_neg (by omega), if_pos q, if_neg (by omega), if_pos q]
  · rw [if_neg q]
    by_cases q2 : j < i
    · rw [if_pos q2, if_pos q2]
    · rw [if_neg q2, if_neg q2, if_neg q, if_neg q]
theorem capC_next {f : Int → Int} {p i : Int} : capC f p i (f (4 * p + i)) = capC f p (i + 1) 0 := by
  funext j
  unfold capC
  by_cases q : j < i
  · rw [if_pos q, if_pos (by omega)]
  · rw [if_neg q]
    by_cases q2 : j = i
    · rw [if_pos q2, if_pos (by omega), q2]
    · rw [if_neg q2, if_neg (by omega)]
      by_cases q3 : j = i + 1
      · rw [if_pos q3]
      · rw [if_neg q3]
theorem capC_bd {f : Int → Int} {p i m j : Int} (hp : 0 ≤ p ∧ p < 4) (hf : ∀ i, 0 ≤ i → i < 16 → 0 ≤ f i ∧ f i ≤ 9) (hm : 0 ≤ m ∧ m ≤ 9) (hj : 0 ≤ j ∧ j < 4) : 0 ≤ capC f p i m j ∧ capC f p i m j ≤ 9 := by
  unfold capC
  split
  · exact hf _ (by omega) (by omega)
  · split
    · exact hm
    · omega
theorem TW_bd {w C : Int → Int} (hw : ∀ i, 0 ≤ i → i < 4 → 1 ≤ w i ∧ w i ≤ 20) (hC : ∀ j, (0 ≤ j ∧ j < 4) → 0 ≤ C j ∧ C j ≤ 9) : 0 ≤ TW w C ∧ TW w C ≤ 720 := by
  have w0 := hw 0 (by omega) (by omega)
  have w1 := hw 1 (by omega) (by omega)
  have w2 := hw 2 (by omega) (by omega)
  have w3 := hw 3 (by omega) (by omega)
  have c0 := hC 0 (by omega)
  have c1 := hC 1 (by omega)
  have c2 := hC 2 (by omega)
  have c3 := hC 3 (by omega)
  have m0 := mul_bd (a := C 0) (b := w 0) (A := 9) (B := 20) (by omega) (by omega) (by omega) (by omega)
  have m1 := mul_bd (a := C 1) (b := w 1) (A := 9) (B := 20) (by omega) (by omega) (by omega) (by omega)
  have m2 := mul_bd (a := C 2) (b := w 2) (A := 9) (B := 20) (by omega) (by omega) (by omega) (by omega)
  have m3 := mul_bd (a := C 3) (b := w 3) (A := 9) (B := 20) (by omega) (by omega) (by omega) (by omega)
  unfold TW
  omega
theorem sp_fewIn {k : Nat} {p i : Int} {h0 g : aH} {X17 : Int × Int × aH → Prop} (hk : k ≠ 4 ∧ k ≠ 14) (hp : 0 ≤ p ∧ p < 4) (hi : 0 ≤ i ∧ i < 4) (hw : ∀ j, 0 ≤ j → j < 4 → 1 ≤ h0 4 j ∧ h0 4 j ≤ 20) (hf : ∀ j, 0 ≤ j → j < 16 → 0 ≤ h0 14 j ∧ h0 14 j ≤ 9) (hg : ∀ c, c ≠ k → g c = h0 c) (fm : FM (h0 4) (capC (h0 14) p i 0) (g k)) (kk : ∀ g', (∀ c, c ≠ k → g' c = h0 c) → FM (h0 4) (capC (h0 14) p (i + 1) 0) (g' k) → X17 (TW (h0 4) (capC (h0 14) p (i + 1) 0), i + 1, g')) : lp (fun X y => wp_X3_countFewest_B36 k X17 i X y.1 y.2.1 y.2.2.1 y.2.2.2) (TW (h0 4) (capC (h0 14) p i 0), h0 14 (4 * p + i), 1, g) := by
  have hn := hf (4 * p + i) (by omega) (by omega)
  have hw1 : ∀ j, 0 ≤ j → j < 4 → 1 ≤ h0 4 j := fun j a b => (hw j a b).1
  refine lp.rule (μ := fun z => z.2.1.toNat) (I := fun z => (0 ≤ z.2.1 ∧ z.2.1 ≤ h0 14 (4 * p + i)) ∧ (1 ≤ z.2.2.1 ∧ z.2.2.1 ≤ 18) ∧ (0 < z.2.1 → z.2.2.1 = h0 14 (4 * p + i) - z.2.1 + 1) ∧ z.1 = TW (h0 4) (capC (h0 14) p i (h0 14 (4 * p + i) - z.2.1)) ∧ (∀ c, c ≠ k → z.2.2.2 c = h0 c) ∧ FM (h0 4) (capC (h0 14) p i (h0 14 (4 * p + i) - z.2.1)) (z.2.2.2 k)) ?_ (TW (h0 4) (capC (h0 14) p i 0), h0 14 (4 * p + i), 1, g) ⟨⟨by dsimp only; omega, by dsimp only; omega⟩, ⟨by dsimp only; omega, by dsimp only; omega⟩, fun _ => by dsimp only; omega, by dsimp only; rw [Int.sub_self], hg, by dsimp only; rw [Int.sub_self]; exact fm⟩
  rintro X ⟨x4, x6, x7, g1⟩ ⟨⟨r0, r1⟩, x7b, e7, e4, g2, f2⟩ hX
  dsimp only at r0 r1 x7b e7 e4 g2 f2 ⊢
  unfold wp_X3_countFewest_B36 wp_X3_countFewest_J100
  have out : x6 = 0 → X17 (x4, i + 1, g1) := fun z => by
    rw [z, Int.sub_zero, capC_next] at f2 e4
    rw [e4]
    exact kk g1 g2 f2
  refine ⟨inR_of (by omega) (by omega), fun q => out (by omega), fun q => ⟨inR_of (by omega) (by omega), fun q2 => by have := e7 (by omega); omega, fun q2 => ?_⟩⟩
  have e7' := e7 (by omega)
  rintro _ rfl
  refine ⟨hi, ?_⟩
  rw [g2 4 hk.1.symm]
  rintro _ rfl
  have wi := hw i hi.1 hi.2
  have sb : 1 ≤ min x7 x6 ∧ min x7 x6 ≤ 9 := by omega
  have sw := mul_bd (a := 1) (b := 1) (A := min x7 x6) (B := h0 4 i) (by omega) sb.1 (by omega) wi.1
  have e1 : h0 14 (4 * p + i) - (x6 - min x7 x6) = (h0 14 (4 * p + i) - x6) + min x7 x6 := by omega
  have cb : ∀ m, (0 ≤ m ∧ m ≤ 9) → ∀ j, (0 ≤ j ∧ j < 4) → 0 ≤ capC (h0 14) p i m j ∧ capC (h0 14) p i m j ≤ 9 := fun m hm j hj => capC_bd hp hf hm hj
  have ta : TW (h0 4) (capC (h0 14) p i (h0 14 (4 * p + i) - x6 + min x7 x6)) = TW (h0 4) (capC (h0 14) p i (h0 14 (4 * p + i) - x6)) + min x7 x6 * h0 4 i := by rw [← addC_cap, TW_add hi]
  have tb := TW_bd hw (cb (h0 14 (4 * p + i) - x6 + min x7 x6) (by omega))
  have tc := TW_bd hw (cb (h0 14 (4 * p + i) - x6) (by omega))
  rw [e4, ← ta]
  refine sp_offer (by omega) (by omega) sb (fun v v0 v1 => f2.rng v0 v1) (fun g3 g4 g5 => ?_)
  rintro _ rfl
  rintro _ rfl
  refine hX _ ⟨⟨by dsimp only; omega, by dsimp only; omega⟩, ⟨by dsimp only; omega, by dsimp only; omega⟩, fun z => by dsimp only at z ⊢; omega, by dsimp only; rw [e1], fun c hc => by dsimp only; rw [g4 c hc, g2 c hc], ?_⟩ (by dsimp only; omega)
  dsimp only
  rw [e1, ← addC_cap]
  have c4 := fun j hj => cb (h0 14 (4 * p + i) - x6 + min x7 x6) (by omega) j hj
  rw [← addC_cap] at c4
  have y0 := c4 0 (by omega)
  have y1 := c4 1 (by omega)
  have y2 := c4 2 (by omega)
  have y3 := c4 3 (by omega)
  have ci : capC (h0 14) p i (h0 14 (4 * p + i) - x6) i = h0 14 (4 * p + i) - x6 := by unfold capC; rw [if_neg (by omega), if_pos rfl]
  refine f2.step hw1 hi sb.1 (by rw [ci]; omega) (by omega) (fun v v0 v1 => ?_)
  rw [g5 v v0 v1, ← addC_cap]
def hdC (f : Int → Int) (p : Int) : Int → Int := capC f p 4 0
theorem hdC_e {f : Int → Int} {p j : Int} (hj : 0 ≤ j ∧ j < 4) : hdC f p j = f (4 * p + j) := by unfold hdC capC; rw [if_pos (by omega)]
theorem TW_hv {w f : Int → Int} {p : Int} : TW w (hdC f p) = hv w f p := by
  unfold TW hv
  rw [hdC_e (by omega), hdC_e (by omega), hdC_e (by omega), hdC_e (by omega), Int.add_zero, Int.mul_comm (w 0), Int.mul_comm (w 1), Int.mul_comm (w 2), Int.mul_comm (w 3)]
theorem sp_countFewest {k : Nat} {p : Int} {h : aH} {Q : Int → aH → Prop} (hk : k ≠ 4 ∧ k ≠ 14) (hp : 0 ≤ p ∧ p < 4) (hw : ∀ j, 0 ≤ j → j < 4 → 1 ≤ h 4 j ∧ h 4 j ≤ 20) (hf : ∀ j, 0 ≤ j → j < 16 → 0 ≤ h 14 j ∧ h 14 j ≤ 9) (kk : ∀ g, (∀ c, c ≠ k → g c = h c) → FM (h 4) (hdC (h 14) p) (g k) → Q (hv (h 4) (h 14) p) g) : wp_X3_countFewest k p h Q := by
  unfold wp_X3_countFewest
  refine sp_fill (by decide) (fun h1 f1 f2 => ?_)
  rintro _ rfl
  have c0 : capC (h 14) p 0 0 = fun j => if j < 0 then h 14 (4 * p + j) else 0 := by
    funext j
    unfold capC
    by_cases q : j < 0
    · rw [if_pos q, if_pos q]
    · rw [if_neg q, if_neg q]; split <;> rfl
  have fm0 : FM (h 4) (capC (h 14) p 0 0) (up h1 k 0 0 k) := by
    intro v v0 v1
    have z0 : capC (h 14) p 0 0 0 = 0 := rfl
    have z1 : capC (h 14) p 0 0 1 = 0 := rfl
    have z2 : capC (h 14) p 0 0 2 = 0 := rfl
    have z3 : capC (h 14) p 0 0 3 = 0 := rfl
    have rr : ∀ {v n}, RR (h 4) (capC (h 14) p 0 0) v n → v = 0 ∧ n = 0 := fun {v n} r => by
      obtain ⟨a0, a1, a2, a3, b, e, f⟩ := r
      rw [z0, z1, z2, z3] at b
      rw [show a0 = 0 by omega, show a1 = 0 by omega, show a2 = 0 by omega, show a3 = 0 by omega, Int.zero_mul, Int.zero_mul, Int.zero_mul, Int.zero_mul] at e
      omega
    rw [up_eq]
    by_cases q : v = 0
    · rw [if_pos q]
      refine Or.inr ⟨⟨0, 0, 0, 0, by rw [z0, z1, z2, z3]; omega, by rw [Int.zero_mul, Int.zero_mul, Int.zero_mul, Int.zero_mul]; omega, rfl⟩, by omega, fun n r => by have := rr r; omega⟩
    · rw [if_neg q, f2 v v0 (by show v < 721; omega)]
      exact Or.inl ⟨rfl, fun n r => q (rr r).1⟩
  have tw0 : TW (h 4) (capC (h 14) p 0 0) = 0 := by
    unfold TW
    rw [show capC (h 14) p 0 0 0 = 0 from rfl, show capC (h 14) p 0 0 1 = 0 from rfl, show capC (h 14) p 0 0 2 = 0 from rfl, show capC (h 14) p 0 0 3 = 0 from rfl, Int.zero_mul, Int.zero_mul, Int.zero_mul, Int.zero_mul]
    rfl
  refine lp.rule (μ := fun z => (5 - z.2.1).toNat) (I := fun z => (0 ≤ z.2.1 ∧ z.2.1 ≤ 4) ∧ z.1 = TW (h 4) (capC (h 14) p z.2.1 0) ∧ (∀ c, c ≠ k → z.2.2 c = h c) ∧ FM (h 4) (capC (h 14) p z.2.1 0) (z.2.2 k)) ?_ (0, 0, up h1 k 0 0) ⟨⟨by dsimp only; omega, by dsimp only; omega⟩, tw0.symm, fun c hc => by dsimp only; rw [up_ne hc, f1 c hc], fm0⟩
  rintro X ⟨x4, t, g⟩ ⟨⟨t0, t1⟩, e4, g1, fm⟩ hX
  dsimp only at t0 t1 e4 g1 fm ⊢
  unfold wp_X3_countFewest_B17
  refine ⟨inR_of (by omega) (by omega), fun q => ?_, fun q => ?_⟩
  · rw [show t = 4 by omega] at e4 fm
    rw [e4]
    have e : TW (h 4) (capC (h 14) p 4 0) = hv (h 4) (h 14) p := TW_hv
    rw [e]
    exact kk g g1 fm
  · rw [show p * 4 + t = 4 * p + t by omega, g1 14 hk.2.symm]
    refine ⟨⟨by omega, by omega⟩, ?_⟩
    rintro _ rfl
    rw [e4]
    exact sp_fewIn hk hp (by omega) hw hf g1 fm (fun g' a b => hX _ ⟨⟨by dsimp only; omega, by dsimp only; omega⟩, rfl, a, b⟩ (by dsimp only; omega))
