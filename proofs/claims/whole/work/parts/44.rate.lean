theorem S_saw {c x y : Int} {h : aH} {K : aH → Prop} (i : Inv c h) (hx : inR x) (hy : inR y) (hK : ∀ h', Inv (c + 1) h' → K h') : wp_X8_saw x y h (fun r h1 => wp_X9_saw x y h1 (fun r2 h2 => inR r ∧ inR r2 ∧ ((r = r2 → K h2) ∧ (¬ r = r2 → False)))) := by
  have hn := i.2.1.1
  have e0 := i.2.1.2.2.1
  obtain ⟨s5, ⟨s1, s2, s3, s4⟩⟩ := i.2.2.2.2.2.1
  have B : ¬ ((0 ≤ x ∧ x < h 3 4) ∧ (0 ≤ y ∧ y ≤ 240)) → wp_X9_saw x y h (fun r2 h2 => inR (-1) ∧ inR r2 ∧ ((-1 = r2 → K h2) ∧ (¬ -1 = r2 → False))) := by
    intro nq
    unfold wp_X9_saw
    rintro _ rfl
    refine sp_personM hx hn (by rw [up_ne (by decide)]; exact e0) (fun r1 hr1 => ⟨fun h0 => fin_ok rfl (inR_of (by omega) (by omega)) (hK _ i.thr), fun h0 => sp_in2 hy inR0 (inR_of (by omega) (by omega)) (fun _ => fin_ok rfl (inR_of (by omega) (by omega)) (hK _ i.thr)) (fun a1 a2 => absurd ⟨by omega, a1, a2⟩ nq)⟩)
  unfold wp_X8_saw
  refine sp_person hx hn (fun r1 hr1 => ⟨fun h0 => B (by omega), fun h0 => sp_within2 hy inR0 (inR_of (by omega) (by omega)) (fun _ => B (by omega)) (fun a1 a2 => ?_)⟩)
  unfold wp_X1_addSeen
  refine ⟨inR_of (by omega) (by omega), fun q => ?_, fun q => ?_⟩
  · refine ⟨⟨by omega, by omega⟩, ?_⟩
    rintro h3 rfl
    rw [up_ne (k' := 52) (by decide)]
    refine ⟨⟨by omega, by omega⟩, ?_⟩
    rintro h3 rfl
    rw [up_ne (k' := 52) (by decide), up_ne (k' := 52) (by decide)]
    rintro h3 rfl
    rw [if_neg (by decide), up_eq, if_pos rfl]
    generalize hh : up (up (up h 56 (h 52 8) x) 57 (h 52 8) y) 52 8 (h 52 8 + 1) = hC
    have cC : ∀ k, k ≠ 52 → k ≠ 56 → k ≠ 57 → hC k = h k := fun k k1 k2 k3 => by rw [← hh, up_ne k1, up_ne k3, up_ne k2]
    unfold wp_X9_saw
    rintro h1 rfl
    have e59 : up hC 59 0 0 59 25 = h 52 8 := by rw [thr59 (by decide), cC 59 (by decide) (by decide) (by decide)]; exact s1
    refine sp_personM hx hn (by rw [up_ne (by decide), cC 61 (by decide) (by decide) (by decide)]; exact e0) (fun r1 hr1 => ⟨fun h0 => absurd h0 (by omega), fun h0 => sp_in2 hy inR0 (inR_of (by omega) (by omega)) (fun q => absurd ⟨a1, a2⟩ q) (fun _ _ => ?_)⟩)
    rw [e59]
    refine ⟨inR_of (by omega) (by omega), fun z => by omega, fun _ => ⟨⟨by omega, by omega⟩, ?_⟩⟩
    rintro h3 rfl
    rw [up_ne (k' := 59) (by decide), e59]
    refine ⟨⟨by omega, by omega⟩, ?_⟩
    rintro h3 rfl
    rw [up_ne (k' := 59) (by decide), up_ne (k' := 59) (by decide), e59]
    rintro h3 rfl
    rw [up_eq, if_pos rfl]
    generalize hm : up (up (up (up hC 59 0 0) 73 (h 52 8) x) 74 (h 52 8) y) 59 25 (h 52 8 + 1) = hM
    have cM : ∀ k, k ≠ 59 → k ≠ 73 → k ≠ 74 → hM k = hC k := fun k k1 k2 k3 => by rw [← hm, up_ne k1, up_ne k3, up_ne k2, up_ne k1]
    have c59 : ∀ j : Int, ¬ j = 0 → ¬ j = 25 → hM 59 j = h 59 j := fun j j0 j1 => by rw [← hm, up_eq, if_neg j1, up_ne (by decide), up_ne (by decide), thr59 j0, cC 59 (by decide) (by decide) (by decide)]
    refine fin_ok rfl (inR_of (by omega) (by omega)) (hK _ (i.rec ?_ ?_ (c59 1 (by decide) (by decide)) (c59 3 (by decide) (by decide)) (c59 18 (by decide) (by decide)) ?_))
    · intro k k1 k2 k3
      rw [cM k k2 (by omega) (by omega), cC k (by omega) (by omega) (by omega)]
    · rw [cM 52 (by decide) (by decide) (by decide), ← hh, up_eq, if_neg (by decide), up_ne (by decide), up_ne (by decide)]
    · refine ⟨?_, ?_⟩
      · rw [cM 52 (by decide) (by decide) (by decide), cM 53 (by decide) (by decide) (by decide), cM 54 (by decide) (by decide) (by decide), cM 55 (by decide) (by decide) (by decide), cM 70 (by decide) (by decide) (by decide), cM 71 (by decide) (by decide) (by decide), cM 72 (by decide) (by decide) (by decide), c59 22 (by decide) (by decide), cC 53 (by decide) (by decide) (by decide), cC 54 (by decide) (by decide) (by decide), cC 55 (by decide) (by decide) (by decide), cC 70 (by decide) (by decide) (by decide), cC 71 (by decide) (by decide) (by decide), cC 72 (by decide) (by decide) (by decide), ← hh, up_eq, if_neg (by decide), up_ne (by decide), up_ne (by decide)]
        exact s5
      · have f56 : hM 56 = up h 56 (h 52 8) x 56 := by rw [cM 56 (by decide) (by decide) (by decide), ← hh, up_ne (by decide), up_ne (by decide)]
        have f57 : hM 57 = up h 57 (h 52 8) y 57 := by rw [cM 57 (by decide) (by decide) (by decide), ← hh, up_ne (by decide)]; exact up_cg (up_ne (by decide))
        have f73 : hM 73 = up h 73 (h 52 8) x 73 := by rw [← hm, up_ne (by decide), up_ne (by decide)]; exact up_cg (by rw [up_ne (by decide), cC 73 (by decide) (by decide) (by decide)])
        have f74 : hM 74 = up h 74 (h 52 8) y 74 := by rw [← hm, up_ne (by decide)]; exact up_cg (by rw [up_ne (by decide), up_ne (by decide), cC 74 (by decide) (by decide) (by decide)])
        have f52 : hM 52 8 = h 52 8 + 1 := by rw [cM 52 (by decide) (by decide) (by decide), ← hh, up_eq, if_pos rfl]
        have f59 : hM 59 25 = h 52 8 + 1 := by rw [← hm, up_eq, if_pos rfl]
        rw [f52, f59, f56, f57, f73, f74]
        refine ⟨rfl, by omega, by omega, fun j j0 j1 => ?_⟩
        rw [up_eq, up_eq, up_eq, up_eq]
        by_cases hj : j = h 52 8
        · rw [if_pos hj, if_pos hj, if_pos hj, if_pos hj]
          exact ⟨⟨rfl, rfl, rfl⟩, ⟨by omega, by omega⟩, ⟨by omega, by omega⟩, Int.le_refl 0, (by decide : (0 : Int) ≤ 2)⟩
        · rw [if_neg hj, if_neg hj, if_neg hj, if_neg hj]
          exact s4 j j0 (by omega)
  · dsimp only
    rw [if_pos rfl]
    unfold wp_X9_saw
    rintro _ rfl
    refine sp_personM hx hn (by rw [up_ne (by decide)]; exact e0) (fun r1 hr1 => ⟨fun h0 => absurd h0 (by omega), fun h0 => sp_in2 hy inR0 (inR_of (by omega) (by omega)) (fun q => absurd ⟨a1, a2⟩ q) (fun _ _ => ?_)⟩)
    rw [thr59 (by decide), s1]
    exact ⟨inR_of (by omega) (by omega), fun _ => fin_ok rfl (inR_of (by omega) (by omega)) (hK _ i.thr), fun z => by omega⟩
-- rate
def sm4 (f : Int → Int) (p : Int) : Int := f (4 * p) + f (4 * p + 1) + f (4 * p + 2) + f (4 * p + 3)
theorem sp_sums {k : Nat} {p : Int} {h : aH} {Q : Int → Prop} (hp : 0 ≤ p ∧ p < 4) (kk : Q (sm4 (h k) p)) : wp_X8_sumOfSorts k p h Q := by
  unfold wp_X8_sumOfSorts
  refine ⟨5, ?_⟩
  simp only [lpN]
  unfold wp_X8_sumOfSorts_B4
  refine ⟨inR_of (by omega) (by omega), fun q => by omega, fun _ => ⟨⟨by omega, by omega⟩, ?_⟩⟩
  rintro _ rfl
  refine ⟨inR_of (by omega) (by omega), fun q => by omega, fun _ => ⟨⟨by omega, by omega⟩, ?_⟩⟩
  rintro _ rfl
  refine ⟨inR_of (by omega) (by omega), fun q => by omega, fun _ => ⟨⟨by omega, by omega⟩, ?_⟩⟩
  rintro _ rfl
  refine ⟨inR_of (by omega) (by omega), fun q => by omega, fun _ => ⟨⟨by omega, by omega⟩, ?_⟩⟩
  rintro _ rfl
  refine ⟨inR_of (by omega) (by omega), fun _ => ?_, fun q => by omega⟩
  unfold sm4 at kk
  rw [show p * 4 + 0 = 4 * p by omega, show p * 4 + (0 + 1) = 4 * p + 1 by omega, show p * 4 + (0 + 1 + 1) = 4 * p + 2 by omega, show p * 4 + (0 + 1 + 1 + 1) = 4 * p + 3 by omega, Int.zero_add]
  exact kk
theorem sm4_bd {f : Int → Int} {p M : Int} (hp : 0 ≤ p ∧ p < 4) (hf : ∀ i, 0 ≤ i → i < 16 → 0 ≤ f i ∧ f i ≤ M) : 0 ≤ sm4 f p ∧ sm4 f p ≤ 4 * M := by
  unfold sm4
  have f0 := hf (4 * p) (by omega) (by omega)
  have f1 := hf (4 * p + 1) (by omega) (by omega)
  have f2 := hf (4 * p + 2) (by omega) (by omega)
  have f3 := hf (4 * p + 3) (by omega) (by omega)
  omega
theorem sm4_cong {f f' : Int → Int} {p : Int} (hp : 0 ≤ p ∧ p < 4) (hf : ∀ i, 0 ≤ i → i < 16 → f' i = f i) : sm4 f' p = sm4 f p := by
  unfold sm4
  rw [hf (4 * p) (by omega) (by omega), hf (4 * p + 1) (by omega) (by omega), hf (4 * p + 2) (by omega) (by omega), hf (4 * p + 3) (by omega) (by omega)]
/-- a rate's answer and what it adds to the trace -/
def rtv (H S G d p kd : Int) : Int := if kd = 0 then H else if kd = 1 then H + S else if kd = 2 then H - G else if kd = 3 then 2 * (H + S) else if kd = 4 then H - G + p else H + d
def rtt (kd : Int) : Int := if kd = 0 then 1 else if kd = 1 then 11 else if kd = 2 then 101 else if kd = 3 then 1011 else if kd = 4 then 10101 else 100001
/-- only the trace has grown -/
def TrO (h h' : aH) (t : Int) : Prop := (∀ k, k ≠ 0 → h' k = h k) ∧ h' 0 11 = h 0 11 + t
theorem TrO.up {h h' : aH} {t a : Int} (q : TrO h h' t) : TrO h (up h' 0 11 (h' 0 11 + a)) (t + a) := ⟨fun k hk => by rw [up_ne hk, q.1 k hk], by rw [up_eq, if_pos rfl, q.2]; omega⟩
theorem TrO.rf {h : aH} : TrO h h 0 := ⟨fun _ _ => rfl, by omega⟩
theorem sp_asPerson {p t : Int} {h h0 : aH} {Q : Int → aH → Prop} (q : TrO h0 h t) (hp : 0 ≤ p ∧ p < 4) (hf : ∀ i, 0 ≤ i → i < 16 → 0 ≤ h0 14 i ∧ h0 14 i ≤ 9) (hg : ∀ i, 0 ≤ i → i < 16 → 0 ≤ h0 6 i ∧ h0 6 i ≤ 3) (k : ∀ h', TrO h0 h' (t + 1) → Q (hv (h0 4) (h0 14) p) h') : wp_X8_asPerson p h Q := by
  unfold wp_X8_asPerson
  rintro _ rfl
  have q1 := q.up (a := 1)
  have e4 := q1.1 4 (by decide)
  have e14 := q1.1 14 (by decide)
  have e6 := q1.1 6 (by decide)
  refine sp_heavi hp (by rw [e14]; exact hf) (by rw [e6]; exact hg) ?_
  rw [e4, e14]
  exact k _ q1
theorem sp_asBride {p t : Int} {h h0 : aH} {Q : Int → aH → Prop} (q : TrO h0 h t) (hp : 0 ≤ p ∧ p < 4) (hf : ∀ i, 0 ≤ i → i < 16 → 0 ≤ h0 14 i ∧ h0 14 i ≤ 9) (hg : ∀ i, 0 ≤ i → i < 16 → 0 ≤ h0 6 i ∧ h0 6 i ≤ 3) (k : ∀ h', TrO h0 h' (t + 11) → Q (hv (h0 4) (h0 14) p + sm4 (h0 14) p) h') : wp_X8_asBride p h Q := by
  unfold wp_X8_asBride
  rintro _ rfl
  refine sp_asPerson q.up hp hf hg (fun h' q' => sp_sums hp ?_)
  rw [q'.1 14 (by decide)]
  exact k h' (by rw [show t + 11 = t + 10 + 1 by omega]; exact q')
theorem sp_asPartner {p t : Int} {h h0 : aH} {Q : Int → aH → Prop} (q : TrO h0 h t) (hp : 0 ≤ p ∧ p < 4) (hf : ∀ i, 0 ≤ i → i < 16 → 0 ≤ h0 14 i ∧ h0 14 i ≤ 9) (hg : ∀ i, 0 ≤ i → i < 16 → 0 ≤ h0 6 i ∧ h0 6 i ≤ 3) (k : ∀ h', TrO h0 h' (t + 101) → Q (hv (h0 4) (h0 14) p - sm4 (h0 6) p) h') : wp_X8_asPartner p h Q := by
  unfold wp_X8_asPartner
  rintro _ rfl
  refine sp_asPerson q.up hp hf hg (fun h' q' => sp_sums hp ?_)
  rw [q'.1 6 (by decide)]
  exact k h' (by rw [show t + 101 = t + 100 + 1 by omega]; exact q')
theorem spC_rate {kd p : Int} {h : aH} {Q : Int → aH → Prop} (hk : inR kd) (hx : inR p) (hn : 0 ≤ h 3 4 ∧ h 3 4 ≤ 4) (hf : ∀ i, 0 ≤ i → i < 16 → 0 ≤ h 14 i ∧ h 14 i ≤ 9) (hg : ∀ i, 0 ≤ i → i < 16 → 0 ≤ h 6 i ∧ h 6 i ≤ 3) (bad : ¬ ((0 ≤ p ∧ p < h 3 4) ∧ 0 ≤ kd ∧ kd ≤ 5) → Q (-1000000) h) (good : (0 ≤ p ∧ p < h 3 4) → 0 ≤ kd → kd ≤ 5 → ∀ h', TrO h h' (rtt kd) → Q (rtv (hv (h 4) (h 14) p) (sm4 (h 14) p) (sm4 (h 6) p) (h 13 1) p kd) h') : wp_X8_rate kd p h Q := by
  unfold wp_X8_rate
  refine sp_person hx hn (fun r1 hr1 => ⟨fun h0 => bad (by omega), fun h0 => ⟨hk, fun q => bad (by omega), fun q => ?_, fun q => ?_, fun q => ?_, fun q => ?_, fun q => ?_, fun q => ?_⟩⟩)
  · subst q
    exact sp_asPerson TrO.rf (by omega) hf hg (fun h' q' => good (by omega) (by omega) (by omega) h' q')
  · subst q
    exact sp_asBride TrO.rf (by omega) hf hg (fun h' q' => good (by omega) (by omega) (by omega) h' q')
  · subst q
    exact sp_asPartner TrO.rf (by omega) hf hg (fun h' q' => good (by omega) (by omega) (by omega) h' q')
  · subst q
    unfold wp_X8_asBrother
    rintro _ rfl
    exact sp_asBride TrO.rf.up (by omega) hf hg (fun h' q' => good (by omega) (by omega) (by omega) h' q')
  · subst q
    unfold wp_X8_asBankrupt
    rintro _ rfl
    exact sp_asPartner TrO.rf.up (by omega) hf hg (fun h' q' => good (by omega) (by omega) (by omega) h' q')
  · subst q
    unfold wp_X8_asStranger
    rintro _ rfl
    refine sp_asPerson TrO.rf.up (by omega) hf hg (fun h' q' => ?_)
    rw [q'.1 13 (by decide)]
    exact good (by omega) (by omega) (by omega) h' q'
theorem spM_rate {kd p n : Int} {h : aH} {Q : Int → aH → Prop} (hk : inR kd) (hx : inR p) (hn : 0 ≤ n ∧ n ≤ 4) (e : h 61 0 = n) (bad : ¬ ((0 ≤ p ∧ p < n) ∧ 0 ≤ kd ∧ kd ≤ 5) → Q (-1000000) (up h 59 0 0)) (good : (0 ≤ p ∧ p < n) → 0 ≤ kd → kd ≤ 5 → Q (rtv (hv (h 62) (fun i => h 66 (1 + i)) p) (sm4 (fun i => h 66 (1 + i)) p) (sm4 (h 64) p) (h 66 0) p kd) (up (up h 59 0 0) 59 1 (h 59 1 + rtt kd))) : wp_X9_rate kd p h Q := by
  unfold wp_X9_rate
  rintro _ rfl
  refine sp_in2 hk inR0 (inR_of (by omega) (by omega)) (fun q => bad (by omega)) (fun k1 k2 => sp_personM hx hn (by rw [up_ne (by decide)]; exact e) (fun r1 hr1 => ⟨fun h0 => bad (by omega), fun h0 => sp_heaviM (by omega) ?_⟩))
  have g := good (by omega) k1 k2
  generalize hv (h 62) (fun i => h 66 (1 + i)) p = H at g
  refine ⟨5, ?_⟩
  simp only [lpN]
  unfold wp_X9_rate_B40
  rw [up_ne (k' := 66) (by decide), up_ne (k' := 64) (by decide), thr59 (by decide)]
  refine ⟨inR_of (by omega) (by omega), fun q => by omega, fun _ => ⟨⟨by omega, by omega⟩, ?_⟩⟩
  rintro _ rfl
  refine ⟨⟨by omega, by omega⟩, ?_⟩
  rintro _ rfl
  try dsimp only
  refine ⟨inR_of (by omega) (by omega), fun q => by omega, fun _ => ⟨⟨by omega, by omega⟩, ?_⟩⟩
  rintro _ rfl
  refine ⟨⟨by omega, by omega⟩, ?_⟩
  rintro _ rfl
  try dsimp only
  refine ⟨inR_of (by omega) (by omega), fun q => by omega, fun _ => ⟨⟨by omega, by omega⟩, ?_⟩⟩
  rintro _ rfl
  refine ⟨⟨by omega, by omega⟩, ?_⟩
  rintro _ rfl
  try dsimp only
  refine ⟨inR_of (by omega) (by omega), fun q => by omega, fun _ => ⟨⟨by omega, by omega⟩, ?_⟩⟩
  rintro _ rfl
  refine ⟨⟨by omega, by omega⟩, ?_⟩
  rintro _ rfl
  try dsimp only
  refine ⟨inR_of (by omega) (by omega), fun _ => ⟨⟨hk, trivial⟩, ?_⟩, fun q => by omega⟩
  rintro _ rfl
  refine ⟨⟨hk, trivial⟩, ?_⟩
  rw [up_ne (k' := 66) (by decide), up_ne (k' := 66) (by decide)]
  have eS : H + h 66 (1 + 4 * p + 0) + h 66 (1 + 4 * p + (0 + 1)) + h 66 (1 + 4 * p + (0 + 1 + 1)) + h 66 (1 + 4 * p + (0 + 1 + 1 + 1)) = H + sm4 (fun i => h 66 (1 + i)) p := by
    unfold sm4
    rw [show 1 + 4 * p + 0 = 1 + (4 * p) by omega, show 1 + 4 * p + (0 + 1) = 1 + (4 * p + 1) by omega, show 1 + 4 * p + (0 + 1 + 1) = 1 + (4 * p + 2) by omega, show 1 + 4 * p + (0 + 1 + 1 + 1) = 1 + (4 * p + 3) by omega]
    dsimp only
    omega
  have eG : H - h 64 (4 * p + 0) - h 64 (4 * p + (0 + 1)) - h 64 (4 * p + (0 + 1 + 1)) - h 64 (4 * p + (0 + 1 + 1 + 1)) = H - sm4 (h 64) p := by
    unfold sm4
    rw [show 4 * p + 0 = 4 * p by omega, show 4 * p + (0 + 1 + 1) = 4 * p + 2 by omega, show 4 * p + (0 + 1 + 1 + 1) = 4 * p + 3 by omega, show 4 * p + (0 + 1) = 4 * p + 1 by omega]
    omega
  rw [eS, eG]
  exact g
theorem S_rate {c x y : Int} {h : aH} {K : aH → Prop} (i : Inv c h) (hx : inR x) (hy : inR y) (hK : ∀ h', Inv (c + 1) h' → K h') : wp_X8_rate x y h (fun r h1 => wp_X9_rate x y h1 (fun r2 h2 => inR r ∧ inR r2 ∧ ((r = r2 → K h2) ∧ (¬ r = r2 → False)))) := by
  obtain ⟨hn, hp, e1, e2, hw, hg, hb⟩ := i.2.1
  have im := i.2.2.1
  refine spC_rate hx hy hn i.held i.grw (fun nq => ?_) (fun q1 q2 q3 h' t => ?_)
  · exact spM_rate hx hy hn e1 (fun _ => fin_ok rfl (inR_of (by omega) (by omega)) (hK _ i.thr)) (fun q1 q2 q3 => absurd ⟨q1, q2, q3⟩ nq)
  · refine spM_rate hx hy hn (by rw [t.1 61 (by decide)]; exact e1) (fun nq => absurd ⟨q1, q2, q3⟩ nq) (fun _ _ _ => ?_)
    rw [t.1 62 (by decide), t.1 66 (by decide), t.1 64 (by decide), t.1 59 (by decide), i.hvM (by omega), sm4_cong (f := h 14) (by omega) (fun j h0 h1 => (im.2.2.1 j h0 h1).1), sm4_cong (f := h 6) (by omega) (fun j h0 h1 => (hg j h0 h1).1), im.2.1]
    have b1 := i.hvB (p := y) (by omega)
    have b2 := sm4_bd (f := h 14) (p := y) (M := 9) (by omega) i.held
    have b3 := sm4_bd (f := h 6) (p := y) (M := 3) (by omega) i.grw
    have b4 := im.1
    have bt : 0 ≤ rtt x ∧ rtt x ≤ 100001 := by
      unfold rtt
      split
      · omega
      · split
        · omega
        · split
          · omega
          · split
            · omega
            · split <;> omega
    refine fin_ok rfl ?_ (hK _ (i.tr (t := rtt x) ?_ ?_ ?_ ?_ ?_ bt ?_ ?_))
    · unfold rtv
      split
      · exact inR_of (by omega) (by omega)
      · split
        · exact inR_of (by omega) (by omega)
        · split
          · exact inR_of (by omega) (by omega)
          · split
            · exact inR_of (by omega) (by omega)
            · split <;> exact inR_of (by omega) (by omega)
    · intro k k1 k2
      rw [up_ne k2, up_ne k2, t.1 k k1]
    · rw [up_eq, if_neg (by decide), thr59 (by decide), t.1 59 (by decide)]
    · rw [up_eq, if_neg (by decide), thr59 (by decide), t.1 59 (by decide)]
    · rw [up_eq, if_neg (by decide), thr59 (by decide), t.1 59 (by decide)]
    · rw [up_eq, if_neg (by decide), thr59 (by decide), t.1 59 (by decide)]
    · rw [up_ne (by decide), up_ne (by decide), t.2]
    · rw [up_eq, if_pos rfl]
