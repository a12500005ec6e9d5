-- odds
def sumI (f : Nat → Int) : Nat → Int
  | 0 => 0
  | k + 1 => sumI f k + f k
theorem sumI_s {f : Nat → Int} {k : Nat} : sumI f (k + 1) = sumI f k + f k := rfl
theorem sumI_congr {f g : Nat → Int} : ∀ {n : Nat}, (∀ k, k < n → f k = g k) → sumI f n = sumI g n
  | 0, _ => rfl
  | n + 1, h => by rw [sumI_s, sumI_s, sumI_congr (n := n) (fun k hk => h k (by omega)), h n (by omega)]
theorem sumI_add {f g e : Nat → Int} : ∀ {n : Nat}, (∀ k, k < n → f k + g k = e k) → sumI f n + sumI g n = sumI e n
  | 0, _ => rfl
  | n + 1, h => by
    have a := sumI_add (n := n) (fun k hk => h k (by omega))
    have b := h n (by omega)
    rw [sumI_s, sumI_s, sumI_s]
    omega
theorem sumI_zero {f : Nat → Int} : ∀ {n : Nat}, (∀ k, k < n → f k = 0) → sumI f n = 0
  | 0, _ => rfl
  | n + 1, h => by rw [sumI_s, sumI_zero (n := n) (fun k hk => h k (by omega)), h n (by omega)]; rfl
theorem sumI_one {g : Nat → Int} {p : Nat} : ∀ {n : Nat}, p < n → sumI (fun k => if k = p then g k else 0) n = g p
  | 0, h => by omega
  | n + 1, h => by
    rw [sumI_s]
    by_cases e : p = n
    · rw [sumI_zero (fun k hk => if_neg (by omega)), if_pos e.symm, e]; omega
    · rw [sumI_one (n := n) (by omega), if_neg (by omega)]; omega
theorem sumI_bd {f : Nat → Int} {B : Int} : ∀ {n : Nat}, (∀ k, k < n → 0 ≤ f k ∧ f k ≤ B) → 0 ≤ sumI f n ∧ sumI f n ≤ B * n
  | 0, _ => by unfold sumI; omega
  | n + 1, h => by
    have a := sumI_bd (n := n) (fun k hk => h k (by omega))
    have b := h n (by omega)
    rw [sumI_s]
    have e : B * ((n + 1 : Nat) : Int) = B * n + B := by rw [Int.natCast_add, Int.mul_add]; omega
    rw [e]
    omega
/-- how many of the first n bits of m are set -/
def popN (m : Nat) : Nat → Nat
  | 0 => 0
  | n + 1 => popN m n + m / 2 ^ n % 2
theorem popN_s {m n : Nat} : popN m (n + 1) = popN m n + m / 2 ^ n % 2 := rfl
theorem popN_le {m : Nat} : ∀ {n : Nat}, popN m n ≤ n
  | 0 => Nat.le_refl _
  | n + 1 => by have := popN_le (m := m) (n := n); rw [popN_s]; omega
theorem sum_swap {g : Nat → Int} {n : Nat} : ∀ {M : Nat}, sumI (fun m => g (popN m n)) M = sumI (fun k => ((ctN (fun m => decide (popN m n = k)) M : Nat) : Int) * g k) (n + 1)
  | 0 => by
    rw [sumI_zero (n := n + 1) (fun k _ => by simp [ctN])]
    rfl
  | M + 1 => by
    have p := popN_le (m := M) (n := n)
    rw [sumI_s, sum_swap (M := M), ← sumI_one (g := g) (p := popN M n) (n := n + 1) (by omega)]
    refine sumI_add (fun k _ => ?_)
    rw [ctN_s]
    by_cases q : k = popN M n
    · rw [if_pos q, if_pos (by simp [q]), Int.natCast_add, Int.add_mul]; simp
    · rw [if_neg q, if_neg (by simpa using fun z => q z.symm)]; simp
def cf (n : Nat) : Nat → Nat
  | 0 => 1
  | k + 1 => cf n k * (n - k) / (k + 1)
theorem cfo_all : (List.range 10).all (fun n => (List.range (n + 1)).all (fun k => (ctN (fun m => decide (popN m n = k)) (2 ^ n) == cf n k) && decide (cf n k ≤ 126))) = true := by decide +kernel
theorem cf_e {n k : Nat} (hn : n ≤ 9) (hk : k ≤ n) : ctN (fun m => decide (popN m n = k)) (2 ^ n) = cf n k ∧ cf n k ≤ 126 := by
  have := List.all_eq_true.mp (List.all_eq_true.mp cfo_all n (List.mem_range.mpr (by omega))) k (List.mem_range.mpr (by omega))
  rw [Bool.and_eq_true, decide_eq_true_iff] at this
  exact ⟨eq_of_beq this.1, this.2⟩
theorem pw_all : (List.range 10).all (fun n => (List.range (n + 1)).all (fun k => (List.range 11).all (fun x => decide (0 ≤ (x : Int) ^ k * (10 - (x : Int)) ^ (n - k) ∧ (x : Int) ^ k * (10 - (x : Int)) ^ (n - k) ≤ 1000000000)))) = true := by decide +kernel
theorem pw_bd {n k : Nat} {x : Int} (hn : n ≤ 9) (hk : k ≤ n) (hx : 0 ≤ x ∧ x ≤ 10) : 0 ≤ x ^ k * (10 - x) ^ (n - k) ∧ x ^ k * (10 - x) ^ (n - k) ≤ 1000000000 := by
  obtain ⟨u, rfl⟩ : ∃ u : Nat, x = (u : Int) := ⟨x.toNat, by omega⟩
  have := List.all_eq_true.mp (List.all_eq_true.mp (List.all_eq_true.mp pw_all n (List.mem_range.mpr (by omega))) k (List.mem_range.mpr (by omega))) u (List.mem_range.mpr (by omega))
  exact of_decide_eq_true this
/-- what k things said count for -/
def odg (n : Nat) (x d w : Int) (k : Nat) : Int := if 0 ≤ d - (k : Int) * w then 0 else x ^ k * (10 - x) ^ (n - k)
def odL (n : Nat) (x d w : Int) : Int := sumI (fun k => (cf n k : Int) * odg n x d w k) (n + 1)
theorem odg_bd {n k : Nat} {x d w : Int} (hn : n ≤ 9) (hk : k ≤ n) (hx : 0 ≤ x ∧ x ≤ 10) : 0 ≤ odg n x d w k ∧ odg n x d w k ≤ 1000000000 := by
  unfold odg
  split
  · omega
  · exact pw_bd hn hk hx
theorem odL_bd {n : Nat} {x d w : Int} (hn : n ≤ 9) (hx : 0 ≤ x ∧ x ≤ 10) : 0 ≤ odL n x d w ∧ odL n x d w ≤ 126000000000 * 10 := by
  have := sumI_bd (f := fun k => (cf n k : Int) * odg n x d w k) (B := 126000000000) (n := n + 1) (fun k hk => by
    have a := (cf_e (n := n) (k := k) hn (by omega)).2
    have b := odg_bd (n := n) (k := k) (x := x) (d := d) (w := w) hn (by omega) hx
    have m := mul_bd (a := (cf n k : Int)) (b := odg n x d w k) (A := 126) (B := 1000000000) (by omega) (by omega) (by omega) (by omega)
    omega)
  unfold odL
  omega
theorem od_eq {n : Nat} {x d w : Int} (hn : n ≤ 9) : sumI (fun m => odg n x d w (popN m n)) (2 ^ n) = odL n x d w := by
  rw [sum_swap]
  unfold odL
  exact sumI_congr (fun k hk => by rw [(cf_e (n := n) (k := k) hn (by omega)).1])
theorem sp_power {x y : Int} {h : aH} {Q : Int → Prop} (hx : inR x) (hy : 0 ≤ y ∧ y ≤ 10) (k : Q (x ^ y.toNat)) : wp_X8_power x y h Q := by
  unfold wp_X8_power
  refine lp.rule (μ := fun z => (11 - z.2).toNat) (I := fun z => (0 ≤ z.2 ∧ z.2 ≤ y) ∧ z.1 = x ^ z.2.toNat) ?_ (1, 0) ⟨⟨by omega, by dsimp only; omega⟩, by dsimp only; rw [show (0 : Int).toNat = 0 from rfl, Int.pow_zero]⟩
  rintro X ⟨s, t⟩ ⟨⟨t0, t1⟩, hs⟩ hX
  dsimp only at t0 t1 hs ⊢
  unfold wp_X8_power_B5
  refine ⟨inR_of (by omega) (by omega), inR_of (by omega) (by omega), fun q => ?_, fun q => ⟨hx, ?_⟩⟩
  · rw [hs, show t = y by omega]; exact k
  · rintro _ rfl
    refine hX _ ⟨⟨by dsimp only; omega, by dsimp only; omega⟩, ?_⟩ (by dsimp only; omega)
    dsimp only
    rw [show (t + 1).toNat = t.toNat + 1 by omega, Int.pow_succ, hs]
theorem sp_lighter {x y s c n : Int} {h : aH} {Q : Int → Prop} (hx : 0 ≤ x ∧ x < 4) (hy : 0 ≤ y ∧ y < 4) (hs : 0 ≤ s ∧ s < 4) (hc : 0 ≤ c ∧ c ≤ 10) (en : h 14 (4 * x + s) = n) (hf : ∀ i, 0 ≤ i → i < 16 → 0 ≤ h 14 i ∧ h 14 i ≤ 9) (hg : ∀ i, 0 ≤ i → i < 16 → 0 ≤ h 6 i ∧ h 6 i ≤ 3) (hw : ∀ i, 0 ≤ i → i < 4 → 1 ≤ h 4 i ∧ h 4 i ≤ 20) (k : Q (odL n.toNat c (hv (h 4) (h 14) x - hv (h 4) (h 14) y) (h 4 s))) : wp_X8_lighterWays x y s c h Q := by
  unfold wp_X8_lighterWays
  have hn := hf (4 * x + s) (by omega) (by omega)
  rw [en] at hn
  obtain ⟨N, eN⟩ : ∃ N : Nat, n = (N : Int) := ⟨n.toNat, by omega⟩
  rw [show x * 4 + s = 4 * x + s by omega, en, eN]
  rw [eN] at k hn
  refine ⟨⟨by omega, by omega⟩, ?_⟩
  rintro _ rfl
  have b1 := hv_bd (p := x) (by omega) hw hf
  have b2 := hv_bd (p := y) (by omega) hw hf
  refine sp_heavi hx hf hg (sp_heavi hy hf hg ?_)
  rintro _ rfl
  have bd : -720 ≤ hv (h 4) (h 14) x - hv (h 4) (h 14) y ∧ hv (h 4) (h 14) x - hv (h 4) (h 14) y ≤ 720 := by omega
  generalize hv (h 4) (h 14) x - hv (h 4) (h 14) y = d at k bd ⊢
  rw [show ((N : Nat) : Int).toNat = N by omega] at k
  have hw' := hw s (by omega) (by omega)
  refine lp.rule (μ := fun z => (12 - z.2.2).toNat) (I := fun z => (0 ≤ z.2.2 ∧ z.2.2 ≤ (N : Int) + 1) ∧ z.1 = (cf N z.2.2.toNat : Int) ∧ z.2.1 = sumI (fun k => (cf N k : Int) * odg N c d (h 4 s) k) z.2.2.toNat) ?_ (1, 0, 0) ⟨⟨by dsimp only; omega, by dsimp only; omega⟩, rfl, rfl⟩
  rintro X ⟨s7, s9, t⟩ ⟨⟨t0, t1⟩, h7, h9⟩ hX
  dsimp only at t0 t1 h7 h9 ⊢
  unfold wp_X8_lighterWays_B37
  obtain ⟨u, rfl⟩ : ∃ u : Nat, t = (u : Int) := ⟨t.toNat, by omega⟩
  rw [show ((u : Nat) : Int).toNat = u by omega] at h7 h9
  refine ⟨inR_of (by omega) (by omega), inR_of (by omega) (by omega), fun q => ?_, fun q => ?_⟩
  · rw [h9, show u = N + 1 by omega]; exact k
  · have cu := (cf_e (n := N) (k := u) (by omega) (by omega)).2
    have m1 := mul_bd (a := (u : Int)) (b := h 4 s) (A := 9) (B := 20) (by omega) (by omega) (by omega) (by omega)
    have m2 := mul_bd (a := (cf N u : Int)) (b := (N : Int) - u) (A := 126) (B := 9) (by omega) (by omega) (by omega) (by omega)
    have ec : ((cf N (u + 1) : Nat) : Int) = (cf N u : Int) * ((N : Int) - u) / ((u : Int) + 1) := by
      have : cf N (u + 1) = cf N u * (N - u) / (u + 1) := rfl
      rw [this, Int.natCast_ediv, Int.natCast_mul, show ((N - u : Nat) : Int) = (N : Int) - u by omega]
      rfl
    have nx : ∀ s9', s9' = sumI (fun k => (cf N k : Int) * odg N c d (h 4 s) k) (u + 1) → wp_X8_lighterWays_J91 (N : Int) X s7 (u : Int) s9' := fun s9' e9 => by
      unfold wp_X8_lighterWays_J91
      rw [h7]
      refine ⟨inR_of (by omega) (by omega), inR_of (by omega) (by omega), ⟨⟨by omega, by omega⟩, by omega, by omega⟩, ?_⟩
      rintro _ rfl
      refine hX _ ⟨⟨by dsimp only; omega, by dsimp only; omega⟩, ?_, ?_⟩ (by dsimp only; omega)
      · dsimp only; rw [show ((u : Int) + 1).toNat = u + 1 by omega, ec]
      · dsimp only; rw [show ((u : Int) + 1).toNat = u + 1 by omega, e9]
    refine ⟨⟨by omega, by omega⟩, inR_of (by omega) (by omega), fun q2 => nx _ ?_, fun q2 => sp_power (inR_of (by omega) (by omega)) (by omega) (sp_power (inR_of (by omega) (by omega)) (by omega) ?_)⟩
    · rw [sumI_s, h9]
      unfold odg
      rw [if_pos q2, Int.mul_zero, Int.add_zero]
    · rintro _ rfl
      refine nx _ ?_
      rw [sumI_s, h9, h7]
      unfold odg
      rw [if_neg q2, Int.mul_assoc, show ((u : Nat) : Int).toNat = u by omega, show ((N : Int) - u).toNat = N - u by omega]
-- the common divisor
def gB : Nat → Nat
  | 0 => 2
  | j + 1 => gB j * 3 / 2
theorem gB_s {j : Nat} : gB (j + 1) = gB j * 3 / 2 := rfl
theorem gB_big : 2000000000 ≤ gB 198 := by decide +kernel
theorem cmpL_0 {x : Int} : cmpL x 0 = 0 ↔ x = 0 := by
  unfold cmpL
  constructor
  · intro h
    by_cases q : x < 0
    · rw [if_pos q] at h; omega
    · rw [if_neg q] at h
      by_cases q2 : x = 0
      · exact q2
      · rw [if_neg q2] at h; omega
  · intro h
    rw [h]; rfl
theorem emod_r {a b : Nat} : (a : Int) % (b : Int) = ((a % b : Nat) : Int) := (Int.natCast_emod a b).symm
theorem sp_commonDivisor {A T : Nat} {h : aH} {Q : Int → Prop} (hA : (A : Int) < 9223372036854775808) (hT : 1 ≤ T ∧ T ≤ 1000000000) (k : Q (Nat.gcd A T : Int)) : wp_X8_commonDivisor A T h Q := by
  unfold wp_X8_commonDivisor
  refine lp.rule (μ := fun z => (201 - z.2.2).toNat) (I := fun z => ∃ a b i : Nat, z = ((a : Int), (b : Int), (i : Int)) ∧ Nat.gcd a b = Nat.gcd A T ∧ (a : Int) < 9223372036854775808 ∧ b ≤ 1000000000 ∧ ((i = 0 ∧ 1 ≤ b) ∨ (1 ≤ i ∧ i ≤ 199 ∧ b ≤ a ∧ a + b < gB (199 - i)))) ?_ (A, T, 0) ⟨A, T, 0, rfl, rfl, hA, hT.2, Or.inl ⟨rfl, hT.1⟩⟩
  rintro X _ ⟨a, b, i, rfl, hg, ha, hb, hi⟩ hX
  dsimp only
  unfold wp_X8_commonDivisor_B9
  refine ⟨inR_of (by omega) (by omega), fun q => by omega, fun q => ⟨⟨by omega, by omega⟩, fun q2 => ?_, fun q2 => ?_⟩⟩
  · have b0 : b = 0 := by have := cmpL_0.mp q2; omega
    rw [b0, Nat.gcd_zero_right] at hg
    rw [hg]; exact k
  · have b0 : 0 < b := by
      rcases Nat.eq_zero_or_pos b with z | z
      · rw [z] at q2; exact absurd rfl q2
      · exact z
    refine ⟨⟨⟨by omega, ha⟩, by omega, by omega⟩, ?_⟩
    rintro _ rfl
    rw [emod_r]
    have ml := Nat.mod_lt a b0
    have md := Nat.div_add_mod a b
    refine hX _ ⟨b, a % b, i + 1, rfl, ?_, by omega, by omega, Or.inr ⟨by omega, ?_⟩⟩ (by dsimp only; omega)
    · rw [Nat.gcd_comm, ← Nat.gcd_rec, Nat.gcd_comm]; exact hg
    · rcases hi with ⟨z1, z2⟩ | ⟨z1, z2, z3, z4⟩
      · have := gB_big
        rw [z1]
        refine ⟨by omega, by omega, ?_⟩
        show b + a % b < gB 198
        omega
      · have hq : 1 ≤ a / b := (Nat.one_le_div_iff b0).mpr z3
        have hb1 : b ≤ b * (a / b) := Nat.le_mul_of_pos_right b hq
        have h199 : i < 199 := by
          rcases Nat.lt_or_ge i 199 with z | z
          · exact z
          · rw [show 199 - i = 0 by omega] at z4
            have : gB 0 = 2 := rfl
            omega
        refine ⟨by omega, by omega, ?_⟩
        have e : 199 - i = (199 - (i + 1)) + 1 := by omega
        rw [e, gB_s] at z4
        omega
theorem spM_gcd {A T : Nat} {h : aH} {Q : Int → Prop} (hA : (A : Int) < 9223372036854775808) (hT : 1 ≤ T ∧ T ≤ 1000000000) (k : Q (Nat.gcd A T : Int)) : wp_X9_gcd A T h Q := by
  unfold wp_X9_gcd
  refine lp.rule (μ := fun z => z.2.toNat) (I := fun z => ∃ a b : Nat, z = ((a : Int), (b : Int)) ∧ Nat.gcd a b = Nat.gcd A T ∧ (a : Int) < 9223372036854775808 ∧ b ≤ 1000000000) ?_ (A, T) ⟨A, T, rfl, rfl, hA, hT.2⟩
  rintro X _ ⟨a, b, rfl, hg, ha, hb⟩ hX
  dsimp only
  unfold wp_X9_gcd_B6
  refine ⟨⟨by omega, by omega⟩, fun q2 => ?_, fun q2 => ?_⟩
  · have b0 : b = 0 := by have := cmpL_0.mp q2; omega
    rw [b0, Nat.gcd_zero_right] at hg
    rw [hg]; exact k
  · have b0 : 0 < b := by
      rcases Nat.eq_zero_or_pos b with z | z
      · rw [z] at q2; exact absurd rfl q2
      · exact z
    refine ⟨⟨⟨by omega, ha⟩, by omega, by omega⟩, ?_⟩
    rintro _ rfl
    rw [emod_r]
    have ml := Nat.mod_lt a b0
    refine hX _ ⟨b, a % b, rfl, ?_, by omega, by omega⟩ (by dsimp only; omega)
    rw [Nat.gcd_comm, ← Nat.gcd_rec, Nat.gcd_comm]; exact hg
-- the reference's way through all that may be said
theorem spM_oddsIn {s x d : Int} {h1 : aH} {N m : Nat} {X106 : Int × Int → Prop} {x8 : Int} (hs : 0 ≤ s ∧ s < 4) (hx : 0 ≤ x ∧ x ≤ 10) (hN : N ≤ 9) (hm : m < 2147483648) (hd : -720 ≤ d ∧ d ≤ 720) (hw : 1 ≤ h1 62 s ∧ h1 62 s ≤ 20) (kk : X106 (x8 + odg N x d (h1 62 s) (popN m N), (m : Int) + 1)) : lp (fun X y => wp_X9_odds_B124 s x h1 (N : Int) d X106 x8 (m : Int) X y.1 y.2.1 y.2.2) (1, 0, 0) := by
  refine lp.rule (μ := fun z => (12 - z.2.2).toNat) (I := fun z => (0 ≤ z.2.2 ∧ z.2.2 ≤ (N : Int)) ∧ z.2.1 = (popN m z.2.2.toNat : Int) ∧ z.1 = x ^ (popN m z.2.2.toNat) * (10 - x) ^ (z.2.2.toNat - popN m z.2.2.toNat)) ?_ (1, 0, 0) ⟨⟨by dsimp only; omega, by dsimp only; omega⟩, rfl, by simp [popN]⟩
  rintro X ⟨s13, s15, t⟩ ⟨⟨t0, t1⟩, h15, h13⟩ hX
  dsimp only at t0 t1 h13 h15 ⊢
  unfold wp_X9_odds_B124
  obtain ⟨u, rfl⟩ : ∃ u : Nat, t = (u : Int) := ⟨t.toNat, by omega⟩
  rw [show ((u : Nat) : Int).toNat = u by omega] at h13 h15
  have pl := popN_le (m := m) (n := u)
  refine ⟨inR_of (by omega) (by omega), fun q => ⟨⟨by omega, by omega⟩, ⟨?_, trivial⟩, ?_⟩, fun q => ?_⟩
  · have m1 := mul_bd (a := s15) (b := h1 62 s) (A := 9) (B := 20) (by omega) (by omega) (by omega) (by omega)
    exact inR_of (by omega) (by omega)
  · rintro _ rfl
    unfold odg at kk
    rw [show u = N by omega] at h13 h15
    rw [h13, h15]
    exact kk
  · rw [bit_b hm (by omega)]
    have eb : m / 2 ^ u % 2 = 0 ∨ m / 2 ^ u % 2 = 1 := by omega
    refine ⟨⟨inR_of (by omega) (by omega), fun _ => ⟨inR_of (by omega) (by omega), trivial⟩, fun _ => ⟨inR_of (by omega) (by omega), trivial⟩⟩, ?_⟩
    rintro _ rfl
    rintro _ rfl
    refine hX _ ⟨⟨by dsimp only; omega, by dsimp only; omega⟩, ?_, ?_⟩ (by dsimp only; omega)
    · dsimp only
      rw [show ((u : Int) + 1).toNat = u + 1 by omega, popN_s, h15]
      omega
    · dsimp only
      rw [show ((u : Int) + 1).toNat = u + 1 by omega, popN_s, h13]
      rcases eb with z | z
      · rw [z, if_neg (by decide), Nat.add_zero, show u + 1 - popN m u = (u - popN m u) + 1 by omega, Int.pow_succ, Int.mul_assoc]
      · rw [z, if_pos (show ((1 : Nat) : Int) = 1 from rfl), show u + 1 - (popN m u + 1) = u - popN m u by omega, Int.pow_succ, Int.mul_assoc, Int.mul_comm _ x, ← Int.mul_assoc]
theorem pow10 {n : Nat} (hn : n ≤ 9) : 1 ≤ 10 ^ n ∧ 10 ^ n ≤ 1000000000 := by
  rcases (show n = 0 ∨ n = 1 ∨ n = 2 ∨ n = 3 ∨ n = 4 ∨ n = 5 ∨ n = 6 ∨ n = 7 ∨ n = 8 ∨ n = 9 by omega) with rfl | rfl | rfl | rfl | rfl | rfl | rfl | rfl | rfl | rfl <;> decide
theorem pow2_9 {n : Nat} (hn : n ≤ 9) : 2 ^ n ≤ 512 := by
  rcases (show n = 0 ∨ n = 1 ∨ n = 2 ∨ n = 3 ∨ n = 4 ∨ n = 5 ∨ n = 6 ∨ n = 7 ∨ n = 8 ∨ n = 9 by omega) with rfl | rfl | rfl | rfl | rfl | rfl | rfl | rfl | rfl | rfl <;> decide
theorem S_odds {c x y s o w : Int} {h : aH} {Q : Int → Int → aH → Prop} (i : Inv c h) (hx : inR x) (hy : inR y) (hs : inR s) (ho : inR o) (hw0 : inR w) (hK : ∀ r h', inL r → Inv (c + 1) h' → Q r r h') : wp_X8_odds x y s o w h (fun r => wp_X9_odds x y s o w h (fun r2 h2 => Q r r2 h2)) := by
  obtain ⟨hn, hp, e1, e2, hw, hg, hb⟩ := i.2.1
  have im := i.2.2.1
  have hf := fun j h0 h1 => (im.2.2.1 j h0 h1).2
  have hg' : ∀ j, 0 ≤ j → j < 16 → 0 ≤ h 6 j ∧ h 6 j ≤ 3 := fun j h0 h1 => by have := hg j h0 h1; omega
  have hwc : ∀ j, 0 ≤ j → j < 4 → 1 ≤ h 4 j ∧ h 4 j ≤ 20 := fun j h0 h1 => (hw j h0 h1).2
  unfold wp_X8_odds
  have i1 : inL (-1) := ⟨by decide, by decide⟩
  have bad : ¬ (((0 ≤ x ∧ x < h 3 4) ∧ (0 ≤ y ∧ y < h 3 4) ∧ ¬ x = y) ∧ (0 ≤ s ∧ s < 4) ∧ (0 ≤ o ∧ o ≤ 10) ∧ 0 ≤ w ∧ w ≤ 1) → wp_X9_odds x y s o w h (fun r2 h2 => Q (-1) r2 h2) := by
    intro nq
    unfold wp_X9_odds
    rintro _ rfl
    exact sp_pairM hx hy hn (by rw [up_ne (by decide)]; exact e1) (fun r hr => ⟨fun _ => hK _ _ i1 i.thr, fun _ => sp_sortM hs (fun r2 hr2 => ⟨fun _ => hK _ _ i1 i.thr, fun _ => sp_in2 ho inR0 (inR_of (by omega) (by omega)) (fun _ => hK _ _ i1 i.thr) (fun a b => sp_in2 hw0 inR0 (inR_of (by omega) (by omega)) (fun _ => hK _ _ i1 i.thr) (fun a2 b2 => by omega))⟩)⟩)
  refine sp_pair hx hy hn (fun r1 hr1 => ⟨fun h0 => bad (by omega), fun h0 => sp_sort hs (fun r2 hr2 => ⟨fun h2 => bad (by omega), fun h2 => sp_within2 ho inR0 (inR_of (by omega) (by omega)) (fun nq => bad (by omega)) (fun o0 o1 => sp_within2 hw0 inR0 (inR_of (by omega) (by omega)) (fun nq => bad (by omega)) (fun w0 w1 => ?_))⟩)⟩)
  have bx : 0 ≤ x ∧ x < 4 := by omega
  have by' : 0 ≤ y ∧ y < 4 := by omega
  have bs : 0 ≤ s ∧ s < 4 := by omega
  have mN := im.2.2.1 (4 * x + s) (by omega) (by omega)
  obtain ⟨N, eN⟩ : ∃ N : Nat, h 14 (4 * x + s) = (N : Int) := ⟨(h 14 (4 * x + s)).toNat, by omega⟩
  rw [eN] at mN
  have b1 := hv_bd (p := x) (by omega) hwc hf
  have b2 := hv_bd (p := y) (by omega) hwc hf
  refine sp_lighter bx by' bs ⟨o0, o1⟩ eN hf hg' hwc ?_
  rw [show x * 4 + s = 4 * x + s by omega, eN, show ((N : Nat) : Int).toNat = N by omega]
  refine ⟨⟨by omega, by omega⟩, sp_power (inR_of (by omega) (by omega)) (by omega) ?_⟩
  have N9 : N ≤ 9 := by omega
  have p10 := pow10 N9
  have p2 := pow2_9 N9
  rw [show ((N : Nat) : Int).toNat = N by omega]
  have lb := odL_bd (n := N) (x := o) (d := hv (h 4) (h 14) x - hv (h 4) (h 14) y) (w := h 4 s) N9 ⟨o0, o1⟩
  have dbd : -720 ≤ hv (h 4) (h 14) x - hv (h 4) (h 14) y ∧ hv (h 4) (h 14) x - hv (h 4) (h 14) y ≤ 720 := by omega
  -- the reference
  have ref : ∀ (A : Nat), odL N o (hv (h 4) (h 14) x - hv (h 4) (h 14) y) (h 4 s) = (A : Int) → wp_X9_odds x y s o w h (fun r2 h2 => Q (if w = 0 then (A : Int) / (Nat.gcd A (10 ^ N) : Int) else ((10 ^ N : Nat) : Int) / (Nat.gcd A (10 ^ N) : Int)) r2 h2) := by
    intro A eA
    have hA : (A : Int) < 9223372036854775808 := by omega
    have g0 : 0 < Nat.gcd A (10 ^ N) := Nat.gcd_pos_of_pos_right _ (by omega)
    have gl : Nat.gcd A (10 ^ N) ≤ 10 ^ N := Nat.gcd_le_right _ (by omega)
    unfold wp_X9_odds
    rintro _ rfl
    refine sp_pairM hx hy hn (by rw [up_ne (by decide)]; exact e1) (fun r hr => ⟨fun q => absurd q (by omega), fun _ => sp_sortM hs (fun r2' hr2' => ⟨fun q => absurd q (by omega), fun _ => sp_in2 ho inR0 (inR_of (by omega) (by omega)) (fun nq => absurd ⟨o0, o1⟩ nq) (fun _ _ => sp_in2 hw0 inR0 (inR_of (by omega) (by omega)) (fun nq => absurd ⟨w0, w1⟩ nq) (fun _ _ => ?_))⟩)⟩)
    have a66 : up h 59 0 0 66 = h 66 := up_ne (by decide)
    have a62 : up h 59 0 0 62 = h 62 := up_ne (by decide)
    rw [a66, show 1 + 4 * x + s = 1 + (4 * x + s) by omega, mN.1]
    refine ⟨⟨by omega, by omega⟩, ?_⟩
    rintro _ rfl
    refine sp_heavinessM bx (sp_heavinessM by' ?_)
    have hm : ∀ p, (0 ≤ p ∧ p < 4) → hv (up h 59 0 0 62) (fun j => up h 59 0 0 66 (1 + j)) p = hv (h 4) (h 14) p := fun p hp => by
      rw [a62, a66]
      exact hv_cong hp (fun j h0 h1 => (hw j h0 h1).1) (fun j h0 h1 => (im.2.2.1 j h0 h1).1)
    rw [hm x bx, hm y by']
    rintro _ rfl
    generalize hv (h 4) (h 14) x - hv (h 4) (h 14) y = d at eA dbd ⊢
    have ws := hw s bs.1 bs.2
    refine lp.rule (μ := fun z => (12 - z.2).toNat) (I := fun z => (0 ≤ z.2 ∧ z.2 ≤ (N : Int)) ∧ z.1 = ((10 ^ z.2.toNat : Nat) : Int)) ?_ (1, 0) ⟨⟨by omega, by dsimp only; omega⟩, rfl⟩
    rintro X ⟨s10, t⟩ ⟨⟨t0, t1⟩, h10⟩ hX
    dsimp only at t0 t1 h10 ⊢
    unfold wp_X9_odds_B82
    obtain ⟨u, rfl⟩ : ∃ u : Nat, t = (u : Int) := ⟨t.toNat, by omega⟩
    rw [show ((u : Nat) : Int).toNat = u by omega] at h10
    refine ⟨inR_of (by omega) (by omega), inR_of (by omega) (by omega), fun q => ?_, fun q => ?_⟩
    · rw [show u = N by omega] at h10
      refine lp.rule (μ := fun z => (513 - z.2).toNat) (I := fun z => (0 ≤ z.2 ∧ z.2 ≤ ((2 ^ N : Nat) : Int)) ∧ z.1 = sumI (fun m => odg N o d (h 4 s) (popN m N)) z.2.toNat) ?_ (0, 0) ⟨⟨by omega, Int.natCast_nonneg _⟩, rfl⟩
      rintro X2 ⟨s8, t2⟩ ⟨⟨t20, t21⟩, h8⟩ hX2
      dsimp only at t20 t21 h8 ⊢
      unfold wp_X9_odds_B106
      obtain ⟨m, rfl⟩ : ∃ m : Nat, t2 = (m : Int) := ⟨t2.toNat, by omega⟩
      rw [show ((m : Nat) : Int).toNat = m by omega] at h8
      have ebs : bshl 1 (N : Int) = ((2 ^ N : Nat) : Int) := by
        have := bshl_n (a := 1) (k := N) (by omega) (by omega)
        rw [Nat.one_mul] at this
        exact this
      rw [ebs]
      refine ⟨inR_of (by omega) (by omega), inR_of (by omega) (by omega), fun q2 => ?_, fun q2 => ?_⟩
      · rw [show m = 2 ^ N by omega, od_eq N9, eA] at h8
        rw [h8, h10]
        refine spM_gcd hA p10 ⟨hw0, fun q3 => ⟨⟨⟨by omega, hA⟩, by omega, by omega⟩, ?_⟩, fun q3 => ⟨⟨⟨by omega, by omega⟩, by omega, by omega⟩, ?_⟩⟩
        · rw [if_pos q3]
          refine hK _ _ ⟨?_, ?_⟩ i.thr
          · have := Int.ediv_nonneg (a := (A : Int)) (b := (Nat.gcd A (10 ^ N) : Int)) (by omega) (by omega); omega
          · have := Int.ediv_le_self (a := (A : Int)) (Nat.gcd A (10 ^ N) : Int) (by omega); omega
        · rw [if_neg q3]
          refine hK _ _ ⟨?_, ?_⟩ i.thr
          · have := Int.ediv_nonneg (a := ((10 ^ N : Nat) : Int)) (b := (Nat.gcd A (10 ^ N) : Int)) (by omega) (by omega); omega
          · have := Int.ediv_le_self (a := ((10 ^ N : Nat) : Int)) (Nat.gcd A (10 ^ N) : Int) (by omega); omega
      · refine spM_oddsIn bs ⟨o0, o1⟩ N9 (by omega) dbd (by rw [a62]; omega) ?_
        rw [a62, ws.1]
        refine hX2 _ ⟨⟨by dsimp only; omega, by dsimp only; omega⟩, ?_⟩ (by dsimp only; omega)
        dsimp only
        rw [show ((m : Int) + 1).toNat = m + 1 by omega, sumI_s, h8]
    · rintro _ rfl
      refine hX _ ⟨⟨by dsimp only; omega, by dsimp only; omega⟩, ?_⟩ (by dsimp only; omega)
      dsimp only
      rw [show ((u : Int) + 1).toNat = u + 1 by omega, Nat.pow_succ, h10, Int.natCast_mul]
      rfl
  obtain ⟨A, eA⟩ : ∃ A : Nat, odL N o (hv (h 4) (h 14) x - hv (h 4) (h 14) y) (h 4 s) = (A : Int) := ⟨(odL N o (hv (h 4) (h 14) x - hv (h 4) (h 14) y) (h 4 s)).toNat, by omega⟩
  have rf := ref A eA
  rw [eA] at lb ⊢
  have e10 : (10 : Int) ^ N = ((10 ^ N : Nat) : Int) := (Int.natCast_pow 10 N).symm
  rw [e10]
  have g0 : 0 < Nat.gcd A (10 ^ N) := Nat.gcd_pos_of_pos_right _ (by omega)
  have gl : Nat.gcd A (10 ^ N) ≤ 10 ^ N := Nat.gcd_le_right _ (by omega)
  refine sp_commonDivisor (by omega) p10 ⟨⟨by omega, by omega⟩, fun q => absurd (cmpL_0.mp q) (by omega), fun _ => ⟨hw0, fun q => ⟨⟨⟨by omega, by omega⟩, by omega, by omega⟩, ?_⟩, fun q => ⟨⟨⟨by omega, by omega⟩, by omega, by omega⟩, ?_⟩⟩⟩
  · rw [if_pos q] at rf; exact rf
  · rw [if_neg q] at rf; exact rf
