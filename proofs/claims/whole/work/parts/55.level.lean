-- level: all ways, one by one
def CS (f : Int → Int) (p : Int) (k : Nat) : Prop := ((k / 1000 : Nat) : Int) ≤ f (4 * p) ∧ ((k / 100 % 10 : Nat) : Int) ≤ f (4 * p + 1) ∧ ((k / 10 % 10 : Nat) : Int) ≤ f (4 * p + 2) ∧ ((k % 10 : Nat) : Int) ≤ f (4 * p + 3)
def cnk (k : Nat) : Int := ((k / 1000 + k / 100 % 10 + k / 10 % 10 + k % 10 : Nat) : Int)
theorem wof_alt {w : Int → Int} {k : Nat} : wof w k = ((k / 1000 : Nat) : Int) * w 0 + ((k / 100 % 10 : Nat) : Int) * w 1 + ((k / 10 % 10 : Nat) : Int) * w 2 + ((k % 10 : Nat) : Int) * w 3 := by
  unfold wof
  rw [Int.mul_comm (w 0), Int.mul_comm (w 1), Int.mul_comm (w 2), Int.mul_comm (w 3)]
theorem hd4 {f : Int → Int} {p : Int} : hdC f p 0 = f (4 * p) ∧ hdC f p 1 = f (4 * p + 1) ∧ hdC f p 2 = f (4 * p + 2) ∧ hdC f p 3 = f (4 * p + 3) := ⟨by rw [hdC_e (by omega), Int.add_zero], hdC_e (by omega), hdC_e (by omega), hdC_e (by omega)⟩
theorem RR_of {w f : Int → Int} {p : Int} {k : Nat} (hc : CS f p k) : RR w (hdC f p) (wof w k) (cnk k) := by
  obtain ⟨e0, e1, e2, e3⟩ := hd4 (f := f) (p := p)
  obtain ⟨c0, c1, c2, c3⟩ := hc
  refine ⟨((k / 1000 : Nat) : Int), ((k / 100 % 10 : Nat) : Int), ((k / 10 % 10 : Nat) : Int), ((k % 10 : Nat) : Int), ?_, wof_alt.symm, ?_⟩
  · rw [e0, e1, e2, e3]; omega
  · unfold cnk; omega
theorem dig4 {a b c d : Int} (ha : 0 ≤ a ∧ a < 10) (hb : 0 ≤ b ∧ b < 10) (hc : 0 ≤ c ∧ c < 10) (hd : 0 ≤ d ∧ d < 10) : (((1000 * a + 100 * b + 10 * c + d).toNat / 1000 : Nat) : Int) = a ∧ (((1000 * a + 100 * b + 10 * c + d).toNat / 100 % 10 : Nat) : Int) = b ∧ (((1000 * a + 100 * b + 10 * c + d).toNat / 10 % 10 : Nat) : Int) = c ∧ (((1000 * a + 100 * b + 10 * c + d).toNat % 10 : Nat) : Int) = d := ⟨by omega, by omega, by omega, by omega⟩
theorem cnk_alt {k : Nat} : cnk k = ((k / 1000 : Nat) : Int) + ((k / 100 % 10 : Nat) : Int) + ((k / 10 % 10 : Nat) : Int) + ((k % 10 : Nat) : Int) := rfl
theorem RR_to {w f : Int → Int} {p v n : Int} (hp : 0 ≤ p ∧ p < 4) (hf : ∀ j, 0 ≤ j → j < 16 → 0 ≤ f j ∧ f j ≤ 9) (r : RR w (hdC f p) v n) : ∃ k, k < 10000 ∧ CS f p k ∧ wof w k = v ∧ cnk k = n := by
  obtain ⟨e0, e1, e2, e3⟩ := hd4 (f := f) (p := p)
  obtain ⟨a0, a1, a2, a3, b, e, g⟩ := r
  rw [e0, e1, e2, e3] at b
  have f0 := hf (4 * p) (by omega) (by omega)
  have f1 := hf (4 * p + 1) (by omega) (by omega)
  have f2 := hf (4 * p + 2) (by omega) (by omega)
  have f3 := hf (4 * p + 3) (by omega) (by omega)
  have dg := dig4 (a := a0) (b := a1) (c := a2) (d := a3) (by omega) (by omega) (by omega) (by omega)
  refine ⟨(1000 * a0 + 100 * a1 + 10 * a2 + a3).toNat, by omega, ⟨by rw [dg.1]; omega, by rw [dg.2.1]; omega, by rw [dg.2.2.1]; omega, by rw [dg.2.2.2]; omega⟩, ?_, ?_⟩
  · rw [wof_dig (by omega) (by omega) (by omega) (by omega)]; exact e
  · rw [cnk_alt, dg.1, dg.2.1, dg.2.2.1, dg.2.2.2]; exact g
theorem spM_canSay {p : Int} {k : Nat} {f : Int → Int} {h : aH} {Q : Int → Prop} (hp : 0 ≤ p ∧ p < 4) (hk : k < 10000) (hf : ∀ j, 0 ≤ j → j < 16 → h 66 (1 + j) = f j ∧ 0 ≤ f j ∧ f j ≤ 9) (kk : ∀ r, ((r = 1 ∧ CS f p k) ∨ (r = 0 ∧ ¬ CS f p k)) → Q r) : wp_X9_canSay p k h Q := by
  unfold wp_X9_canSay
  rintro _ rfl
  have f0 := hf (4 * p) (by omega) (by omega)
  have f1 := hf (4 * p + 1) (by omega) (by omega)
  have f2 := hf (4 * p + 2) (by omega) (by omega)
  have f3 := hf (4 * p + 3) (by omega) (by omega)
  rw [show 1 + 4 * p + 1 = 1 + (4 * p + 1) by omega, show 1 + 4 * p + 2 = 1 + (4 * p + 2) by omega, show 1 + 4 * p + 3 = 1 + (4 * p + 3) by omega, f0.1, f1.1, f2.1, f3.1]
  have d0 : (k : Int) / 1000 = ((k / 1000 : Nat) : Int) := by omega
  have d1 : (k : Int) / 100 % 10 = ((k / 100 % 10 : Nat) : Int) := by omega
  have d2 : (k : Int) / 10 % 10 = ((k / 10 % 10 : Nat) : Int) := by omega
  have d3 : (k : Int) % 10 = ((k % 10 : Nat) : Int) := by omega
  rw [d0, d1, d2, d3]
  have R : ∀ {x : Int}, 0 ≤ x → x ≤ 20 → inR x := fun a b => inR_of (by omega) (by omega)
  refine ⟨⟨by omega, by omega⟩, ⟨by omega, by omega⟩, R (by omega) (by omega), R (by omega) (by omega), fun q => kk 0 (Or.inr ⟨rfl, fun c => by have := c.1; omega⟩), fun q => ⟨⟨by omega, by omega⟩, ⟨by omega, by omega⟩, R (by omega) (by omega), R (by omega) (by omega), fun q2 => kk 0 (Or.inr ⟨rfl, fun c => by have := c.2.1; omega⟩), fun q2 => ⟨⟨by omega, by omega⟩, ⟨by omega, by omega⟩, R (by omega) (by omega), R (by omega) (by omega), fun q3 => kk 0 (Or.inr ⟨rfl, fun c => by have := c.2.2.1; omega⟩), fun q3 => ⟨⟨by omega, by omega⟩, ⟨R (by omega) (by omega), R (by omega) (by omega), trivial⟩, kk _ ?_⟩⟩⟩⟩
  by_cases q4 : f (4 * p + 3) < ((k % 10 : Nat) : Int)
  · rw [if_pos q4]; exact Or.inr ⟨rfl, fun c => by have := c.2.2.2; omega⟩
  · rw [if_neg q4]; exact Or.inl ⟨rfl, by omega, by omega, by omega, by omega⟩
def GK (w f : Int → Int) (p t : Int) (K : Nat) (G : Int) : Prop := (G = 1000000 ∧ ∀ k, k < K → CS f p k → ¬ hv w f p - wof w k = t) ∨ ((∃ k, k < K ∧ CS f p k ∧ hv w f p - wof w k = t ∧ cnk k = G) ∧ ∀ k, k < K → CS f p k → hv w f p - wof w k = t → G ≤ cnk k)
def GR (w f : Int → Int) (p : Int) (G : Int → Int) : Prop := ∀ t : Int, 0 ≤ t → t ≤ 720 → (G t = 1000000 ∧ ∀ n, ¬ RR w (hdC f p) (hv w f p - t) n) ∨ (RR w (hdC f p) (hv w f p - t) (G t) ∧ (0 ≤ G t ∧ G t ≤ 36) ∧ ∀ n, RR w (hdC f p) (hv w f p - t) n → G t ≤ n)
theorem hd_sum {f : Int → Int} {p : Int} (hp : 0 ≤ p ∧ p < 4) (hf : ∀ j, 0 ≤ j → j < 16 → 0 ≤ f j ∧ f j ≤ 9) : hdC f p 0 + hdC f p 1 + hdC f p 2 + hdC f p 3 ≤ 36 := by
  obtain ⟨e0, e1, e2, e3⟩ := hd4 (f := f) (p := p)
  have f0 := hf (4 * p) (by omega) (by omega)
  have f1 := hf (4 * p + 1) (by omega) (by omega)
  have f2 := hf (4 * p + 2) (by omega) (by omega)
  have f3 := hf (4 * p + 3) (by omega) (by omega)
  rw [e0, e1, e2, e3]; omega
theorem GK.gr {w f : Int → Int} {p t G : Int} (hp : 0 ≤ p ∧ p < 4) (hw : ∀ i, 0 ≤ i → i < 4 → 1 ≤ w i) (hf : ∀ j, 0 ≤ j → j < 16 → 0 ≤ f j ∧ f j ≤ 9) (h : GK w f p t 10000 G) : (G = 1000000 ∧ ∀ n, ¬ RR w (hdC f p) (hv w f p - t) n) ∨ (RR w (hdC f p) (hv w f p - t) G ∧ (0 ≤ G ∧ G ≤ 36) ∧ ∀ n, RR w (hdC f p) (hv w f p - t) n → G ≤ n) := by
  rcases h with ⟨h1, h2⟩ | ⟨⟨k, k1, k2, k3, k4⟩, h2⟩
  · refine Or.inl ⟨h1, fun n r => ?_⟩
    obtain ⟨k, k1, k2, k3, k4⟩ := RR_to hp hf r
    exact h2 k k1 k2 (by omega)
  · have r := RR_of (w := w) k2
    rw [show wof w k = hv w f p - t by omega, k4] at r
    have s := hd_sum hp hf
    refine Or.inr ⟨r, by have := r.bd hw; omega, fun n r2 => ?_⟩
    obtain ⟨k', k1', k2', k3', k4'⟩ := RR_to hp hf r2
    have := h2 k' k1' k2' (by omega)
    omega
theorem spM_sheds {off p : Int} {w f : Int → Int} {h : aH} {Q : aH → Prop} (ho : off = 0 ∨ off = 721) (hp : 0 ≤ p ∧ p < 4) (hw : ∀ j, 0 ≤ j → j < 4 → h 62 j = w j ∧ 1 ≤ w j ∧ w j ≤ 20) (hf : ∀ j, 0 ≤ j → j < 16 → h 66 (1 + j) = f j ∧ 0 ≤ f j ∧ f j ≤ 9) (kk : ∀ g, (∀ c, c ≠ 78 → g c = h c) → (∀ j : Int, ¬ (off ≤ j ∧ j ≤ off + 720) → g 78 j = h 78 j) → GR w f p (fun t => g 78 (off + t)) → Q g) : wp_X9_sheds off p h Q := by
  unfold wp_X9_sheds
  refine lp.rule (μ := fun z => (722 - z.1).toNat) (I := fun z => (0 ≤ z.1 ∧ z.1 ≤ 721) ∧ (∀ c, c ≠ 78 → z.2 c = h c) ∧ (∀ j : Int, ¬ (off ≤ j ∧ j ≤ off + 720) → z.2 78 j = h 78 j) ∧ ∀ t : Int, 0 ≤ t → t < z.1 → z.2 78 (off + t) = 1000000) ?_ (0, h) ⟨⟨by dsimp only; omega, by dsimp only; omega⟩, fun _ _ => rfl, fun _ _ => rfl, fun t t0 t1 => absurd (show t < 0 from t1) (by omega)⟩
  rintro X ⟨n, g⟩ ⟨⟨n0, n1⟩, g1, g2, g3⟩ hX
  dsimp only at n0 n1 g1 g2 g3 ⊢
  unfold wp_X9_sheds_B2
  have hwb : ∀ i, 0 ≤ i → i < 4 → 1 ≤ w i := fun i a b => (hw i a b).2.1
  have hfb : ∀ j, 0 ≤ j → j < 16 → 0 ≤ f j ∧ f j ≤ 9 := fun j a b => (hf j a b).2
  refine ⟨inR_of (by omega) (by omega), fun q => sp_heavinessM hp ?_, fun q => ⟨⟨by omega, by omega⟩, ?_⟩⟩
  · have eh : hv (g 62) (fun i => g 66 (1 + i)) p = hv w f p := by
      rw [g1 62 (by decide), g1 66 (by decide)]
      exact hv_cong hp (fun j a b => (hw j a b).1) (fun j a b => (hf j a b).1)
    rw [eh]
    have vb := hv_bd (w := w) (f := f) hp (fun j a b => (hw j a b).2) hfb
    refine lp.rule (μ := fun z => (10000 - z.1).toNat) (I := fun z => (0 ≤ z.1 ∧ z.1 ≤ 10000) ∧ (∀ c, c ≠ 78 → z.2 c = h c) ∧ (∀ j : Int, ¬ (off ≤ j ∧ j ≤ off + 720) → z.2 78 j = h 78 j) ∧ ∀ t : Int, 0 ≤ t → t ≤ 720 → GK w f p t z.1.toNat (z.2 78 (off + t))) ?_ (0, g) ⟨⟨by dsimp only; omega, by dsimp only; omega⟩, g1, g2, fun t t0 t1 => Or.inl ⟨g3 t t0 (by omega), fun k hk => absurd hk (Nat.not_lt_zero k)⟩⟩
    rintro X2 ⟨m, g'⟩ ⟨⟨m0, m1⟩, a1, a2, a3⟩ hX2
    dsimp only at m0 m1 a1 a2 a3 ⊢
    unfold wp_X9_sheds_B34 wp_X9_sheds_J131
    obtain ⟨K, rfl⟩ : ∃ K : Nat, m = (K : Int) := ⟨m.toNat, by omega⟩
    rw [show ((K : Nat) : Int).toNat = K by omega] at a3
    refine ⟨inR_of (by omega) (by omega), fun q2 => kk g' a1 a2 (fun t t0 t1 => ?_), fun q2 => ?_⟩
    · have := a3 t t0 t1
      rw [show K = 10000 by omega] at this
      exact this.gr hp hwb hfb
    · have hlt : (10000 - ((K : Int) + 1)).toNat < (10000 - (K : Int)).toNat := (Int.toNat_lt_toNat (by omega)).mpr (by omega)
      refine spM_canSay hp (by omega) (f := f) (by rw [a1 66 (by decide)]; exact hf) (fun r4 hr4 => ⟨fun z => ?_, fun z => ?_⟩)
      · have nc : ¬ CS f p K := by
          rcases hr4 with ⟨y, _⟩ | ⟨_, y⟩
          · omega
          · exact y
        refine hX2 _ ⟨⟨by dsimp only; omega, by dsimp only; omega⟩, a1, a2, fun t t0 t1 => ?_⟩ hlt
        dsimp only
        rw [show ((K : Int) + 1).toNat = K + 1 by omega]
        rcases a3 t t0 t1 with ⟨h1, h2⟩ | ⟨⟨k, k1, k2⟩, h2⟩
        · refine Or.inl ⟨h1, fun k hk c => ?_⟩
          by_cases e : k = K
          · rw [e] at c; exact absurd c nc
          · exact h2 k (by omega) c
        · refine Or.inr ⟨⟨k, by omega, k2⟩, fun k hk c => ?_⟩
          by_cases e : k = K
          · rw [e] at c; exact absurd c nc
          · exact h2 k (by omega) c
      · have hc : CS f p K := by
          rcases hr4 with ⟨_, y⟩ | ⟨y, _⟩
          · exact y
          · omega
        refine sp_weighsOf (by omega) ?_
        rw [show ((K : Nat) : Int).toNat = K by omega, a1 62 (by decide), wof_cong (w := w) (fun j a b => (hw j a b).1)]
        have rb := (RR_of (w := w) hc).bd hwb
        rw [TW_hv] at rb
        rintro _ rfl
        refine ⟨⟨by omega, by omega⟩, ⟨by omega, by omega⟩, ⟨by omega, by omega⟩, ?_⟩
        have ec : (K : Int) / 1000 + (K : Int) / 100 % 10 + (K : Int) / 10 % 10 + (K : Int) % 10 = cnk K := by unfold cnk; omega
        rw [ec]
        rintro _ rfl
        have gb := a3 (hv w f p - wof w K) (by omega) (by omega)
        have grng : g' 78 (off + (hv w f p - wof w K)) = 1000000 ∨ (0 ≤ g' 78 (off + (hv w f p - wof w K)) ∧ g' 78 (off + (hv w f p - wof w K)) ≤ 40000) := by
          rcases gb with ⟨z1, _⟩ | ⟨⟨k, k1, k2, k3, k4⟩, _⟩
          · exact Or.inl z1
          · unfold cnk at k4; exact Or.inr (by omega)
        have s36 := hd_sum hp hfb
        refine ⟨⟨by omega, by omega⟩, ⟨inR_of (by omega) (by omega), inR_of (by omega) (by omega), trivial⟩, ?_⟩
        rintro _ rfl
        refine hX2 _ ⟨⟨by dsimp only; omega, by dsimp only; omega⟩, fun c hc => by dsimp only; rw [up_ne hc, a1 c hc], fun j hj => ?_, fun t t0 t1 => ?_⟩ hlt
        · dsimp only; rw [up_eq, if_neg (by omega), a2 j hj]
        · dsimp only
          rw [show ((K : Int) + 1).toNat = K + 1 by omega, up_eq]
          by_cases et : hv w f p - wof w K = t
          · rw [if_pos (by omega)]
            rw [et] at gb ⊢
            rcases gb with ⟨h1, h2⟩ | ⟨⟨k, k1, k2, k3, k4⟩, h2⟩
            · rw [if_neg (by omega)]
              refine Or.inr ⟨⟨K, by omega, hc, et, rfl⟩, fun k hk c e => ?_⟩
              by_cases eK : k = K
              · rw [eK]; exact Int.le_refl _
              · exact absurd e (h2 k (by omega) c)
            · by_cases q5 : g' 78 (off + t) ≤ cnk K
              · rw [if_pos q5]
                refine Or.inr ⟨⟨k, by omega, k2, k3, k4⟩, fun k' hk c e => ?_⟩
                by_cases eK : k' = K
                · rw [eK]; exact q5
                · exact h2 k' (by omega) c e
              · rw [if_neg q5]
                refine Or.inr ⟨⟨K, by omega, hc, et, rfl⟩, fun k' hk c e => ?_⟩
                by_cases eK : k' = K
                · rw [eK]; exact Int.le_refl _
                · have := h2 k' (by omega) c e; omega
          · rw [if_neg (by omega)]
            rcases a3 t t0 t1 with ⟨h1, h2⟩ | ⟨⟨k, k1, k2⟩, h2⟩
            · refine Or.inl ⟨h1, fun k hk c => ?_⟩
              by_cases e : k = K
              · rw [e]; exact et
              · exact h2 k (by omega) c
            · refine Or.inr ⟨⟨k, by omega, k2⟩, fun k hk c e => ?_⟩
              by_cases eK : k = K
              · rw [eK] at e; exact absurd e et
              · exact h2 k (by omega) c e
  · rintro _ rfl
    refine hX _ ⟨⟨by dsimp only; omega, by dsimp only; omega⟩, fun c hc => by dsimp only; rw [up_ne hc, g1 c hc], fun j hj => ?_, fun t t0 t1 => ?_⟩ (by dsimp only; omega)
    · dsimp only; rw [up_eq, if_neg (by omega), g2 j hj]
    · dsimp only at t1 ⊢
      rw [up_eq]
      by_cases e : t = n
      · rw [if_pos (by omega)]
      · rw [if_neg (by omega)]; exact g3 t t0 (by omega)
