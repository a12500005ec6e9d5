-- A SHOP READ: all begins anew
theorem cpy_ne {h : aH} {ks kt k : Nat} {sp dp len : Int} (hk : k ≠ kt) : cpy h ks sp kt dp len k = h k := by
  funext i
  unfold cpy
  rw [if_neg (fun q => hk q.1)]
theorem cpy_at {h : aH} {ks kt : Nat} {len i : Int} (i0 : 0 ≤ i) (i1 : i < len) : cpy h ks 0 kt 0 len kt i = h ks i := by
  unfold cpy
  rw [if_pos ⟨rfl, i0, by omega⟩]
  congr 1
  omega
theorem sp_anew {h : aH} {Q : aH → Prop} (hp : 0 ≤ h 3 5 ∧ h 3 5 ≤ 5) (hb : ∀ i, 0 ≤ i → i < h 3 5 → 1 ≤ h 7 i ∧ h 7 i ≤ 60) (kk : ∀ g : aH, (∀ c, c ≠ 13 → c ≠ 14 → c ≠ 15 → c ≠ 42 → c ≠ 47 → c ≠ 48 → c ≠ 52 → g c = h c) → g 13 1 = 0 → g 13 2 = 0 → (∀ i, 0 ≤ i → i < 16 → g 14 i = h 5 i) → g 15 1 = h 15 1 → g 15 2 = 0 → g 42 0 = 0 → g 42 1 = 0 → DRAW (h 3 5) (h 7) (g 48) → g 52 6 = 0 → g 52 7 = 0 → g 52 8 = 0 → Q g) : wp_X8_beginAnew h Q := by
  obtain ⟨p, ep⟩ : ∃ p : Nat, h 3 5 = (p : Int) := ⟨(h 3 5).toNat, by omega⟩
  unfold wp_X8_beginAnew wp_X4_begin
  rintro _ rfl
  rintro _ rfl
  rintro _ rfl
  rintro _ rfl
  generalize hh : up (up (up (cpy h 5 0 14 0 16) 13 1 0) 13 2 0) 15 2 0 = h1
  have k1 : ∀ c, c ≠ 13 → c ≠ 14 → c ≠ 15 → h1 c = h c := fun c c1 c2 c3 => by rw [← hh, up_ne c3, up_ne c1, up_ne c1, cpy_ne c2]
  have a1 : h1 13 1 = 0 := by rw [← hh, up_ne (by decide), up_eq, if_neg (by decide), up_eq, if_pos rfl]
  have a2 : h1 13 2 = 0 := by rw [← hh, up_ne (by decide), up_eq, if_pos rfl]
  have a3 : ∀ i, 0 ≤ i → i < 16 → h1 14 i = h 5 i := fun i i0 i1 => by rw [← hh, up_ne (by decide), up_ne (by decide), up_ne (by decide), cpy_at i0 i1]
  have a4 : h1 15 1 = h 15 1 := by rw [← hh, up_eq, if_neg (by decide), up_ne (by decide), up_ne (by decide), cpy_ne (by decide)]
  have a5 : h1 15 2 = 0 := by rw [← hh, up_eq, if_pos rfl]
  refine lp.rule (μ := fun y => (3 - y.1).toNat) (I := fun y => (0 ≤ y.1 ∧ y.1 ≤ 2) ∧ (∀ c, c ≠ 42 → y.2 c = h1 c) ∧ ∀ i, 0 ≤ i → i < y.1 → y.2 42 i = 0) ?_ (0, h1) ⟨⟨by dsimp only; omega, by dsimp only; omega⟩, fun _ _ => rfl, fun i i0 i1 => by dsimp only at i1; omega⟩
  rintro X ⟨t, g⟩ ⟨⟨t0, t1⟩, g1, g2⟩ hX
  dsimp only at t0 t1 g1 g2 ⊢
  unfold wp_X8_beginAnew_B21
  refine ⟨inR_of (by omega) (by omega), fun q => ?_, fun q => ⟨⟨by omega, by omega⟩, ?_⟩⟩
  · have e3 : g 3 = h 3 := by rw [g1 3 (by decide), k1 3 (by decide) (by decide) (by decide)]
    have e7 : g 7 = h 7 := by rw [g1 7 (by decide), k1 7 (by decide) (by decide) (by decide)]
    refine sp_layOut (p := p) (by omega) (by rw [e3]; exact ep) (fun i i0 i1 => by rw [e7]; exact hb i i0 (by omega)) (fun g3 f1 f2 => ?_)
    unfold wp_X1_begin wp_X1_dropRecords
    rintro _ rfl
    rintro _ rfl
    rintro _ rfl
    have fr : ∀ c, c ≠ 52 → up (up (up g3 52 7 0) 52 8 0) 52 6 0 c = g3 c := fun c hc => by rw [up_ne hc, up_ne hc, up_ne hc]
    have s : ∀ c, c ≠ 52 → c ≠ 47 → c ≠ 48 → c ≠ 42 → up (up (up g3 52 7 0) 52 8 0) 52 6 0 c = h1 c := fun c c1 c2 c3 c4 => by rw [fr c c1, f1 c c2 c3, g1 c c4]
    refine kk _ (fun c c1 c2 c3 c4 c5 c6 c7 => by rw [s c c7 c5 c6 c4, k1 c c1 c2 c3]) (by rw [s 13 (by decide) (by decide) (by decide) (by decide)]; exact a1) (by rw [s 13 (by decide) (by decide) (by decide) (by decide)]; exact a2) (fun i i0 i1 => by rw [s 14 (by decide) (by decide) (by decide) (by decide)]; exact a3 i i0 i1) (by rw [s 15 (by decide) (by decide) (by decide) (by decide)]; exact a4) (by rw [s 15 (by decide) (by decide) (by decide) (by decide)]; exact a5) (by rw [fr 42 (by decide), f1 42 (by decide) (by decide)]; exact g2 0 (by omega) (by omega)) (by rw [fr 42 (by decide), f1 42 (by decide) (by decide)]; exact g2 1 (by omega) (by omega)) ?_ (by rw [up_eq, if_pos rfl]) (by rw [up_eq, if_neg (by decide), up_eq, if_neg (by decide), up_eq, if_pos rfl]) (by rw [up_eq, if_neg (by decide), up_eq, if_pos rfl])
    rw [fr 48 (by decide), ep, ← e7]
    exact f2
  · rintro _ rfl
    refine hX _ ⟨⟨by dsimp only; omega, by dsimp only; omega⟩, fun c hc => by dsimp only; rw [up_ne hc, g1 c hc], fun i i0 i1 => ?_⟩ (by dsimp only; omega)
    dsimp only at i1 ⊢
    rw [up_eq]
    by_cases z : i = t
    · rw [if_pos z]
    · rw [if_neg z]; exact g2 i i0 (by omega)
theorem spM_settles {n : Int} {h : aH} {Q : aH → Prop} (hn : 0 ≤ n ∧ n ≤ 4) (en : h 61 2 = n) (kk : ∀ g : aH, (∀ c, c ≠ 59 → c ≠ 61 → c ≠ 62 → c ≠ 64 → c ≠ 65 → c ≠ 66 → c ≠ 68 → c ≠ 75 → c ≠ 76 → c ≠ 77 → g c = h c) → g 61 0 = n → g 61 1 = h 61 3 → (∀ i, 0 ≤ i → i < 4 → g 62 i = h 62 (4 + i)) → (∀ i, 0 ≤ i → i < 16 → g 64 i = h 64 (16 + i)) → (∀ i, 0 ≤ i → i < 5 → g 65 i = h 65 (5 + i)) → g 66 0 = 0 → (∀ i, 0 ≤ i → i < 16 → g 66 (1 + i) = if 4 * n ≤ i then 0 else h 63 i) → (∀ i, 17 ≤ i → i < 23 → g 66 i = 0) → g 59 3 = 0 → g 59 22 = 0 → g 59 25 = 0 → g 59 18 = 0 → g 59 1 = h 59 1 → g 68 0 = 0 → g 68 1 = 0 → ORDM n (g 76) (g 77) → Q g) : wp_X9_settles h Q := by
  unfold wp_X9_settles
  rintro _ rfl
  rw [en, show up h 61 0 n 61 3 = h 61 3 by rw [up_eq, if_neg (by decide)]]
  rintro _ rfl
  generalize hh : up (up h 61 0 n) 61 1 (h 61 3) = h1
  have k1 : ∀ c, c ≠ 61 → h1 c = h c := fun c c1 => by rw [← hh, up_ne c1, up_ne c1]
  have a1 : h1 61 0 = n := by rw [← hh, up_eq, if_neg (by decide), up_eq, if_pos rfl]
  have a2 : h1 61 1 = h 61 3 := by rw [← hh, up_eq, if_pos rfl]
  -- weights
  refine lp.rule (μ := fun y => (5 - y.1).toNat) (I := fun y => (0 ≤ y.1 ∧ y.1 ≤ 4) ∧ (∀ c, c ≠ 62 → y.2 c = h1 c) ∧ (∀ i : Int, 4 ≤ i → y.2 62 i = h 62 i) ∧ ∀ i, 0 ≤ i → i < y.1 → y.2 62 i = h 62 (4 + i)) ?_ (0, h1) ⟨⟨by dsimp only; omega, by dsimp only; omega⟩, fun _ _ => rfl, fun i _ => by dsimp only; rw [k1 62 (by decide)], fun i i0 i1 => by dsimp only at i1; omega⟩
  rintro X ⟨t, g⟩ ⟨⟨t0, t1⟩, g1, g2, g3⟩ hX
  dsimp only at t0 t1 g1 g2 g3 ⊢
  unfold wp_X9_settles_B26
  refine ⟨inR_of (by omega) (by omega), fun q => ?_, fun q => ⟨⟨by omega, by omega⟩, ⟨by omega, by omega⟩, ?_⟩⟩
  rotate_left
  · rintro _ rfl
    refine hX _ ⟨⟨by dsimp only; omega, by dsimp only; omega⟩, fun c hc => by dsimp only; rw [up_ne hc, g1 c hc], fun i hi => by dsimp only; rw [up_eq, if_neg (by omega)]; exact g2 i hi, fun i i0 i1 => ?_⟩ (by dsimp only; omega)
    dsimp only at i1 ⊢
    rw [up_eq]
    by_cases z : i = t
    · rw [if_pos z, z]; exact g2 _ (by omega)
    · rw [if_neg z]; exact g3 i i0 (by omega)
  have g3' : ∀ i, 0 ≤ i → i < 4 → g 62 i = h 62 (4 + i) := fun i i0 i1 => g3 i i0 (by omega)
  clear hX g3 g2
  -- brass
  refine lp.rule (μ := fun y => (6 - y.1).toNat) (I := fun y => (0 ≤ y.1 ∧ y.1 ≤ 5) ∧ (∀ c, c ≠ 65 → y.2 c = g c) ∧ (∀ i : Int, 5 ≤ i → y.2 65 i = h 65 i) ∧ ∀ i, 0 ≤ i → i < y.1 → y.2 65 i = h 65 (5 + i)) ?_ (0, g) ⟨⟨by dsimp only; omega, by dsimp only; omega⟩, fun _ _ => rfl, fun i _ => by dsimp only; rw [g1 65 (by decide), k1 65 (by decide)], fun i i0 i1 => by dsimp only at i1; omega⟩
  rintro X ⟨t, y⟩ ⟨⟨t0, t1⟩, y1, y2, y3⟩ hX
  dsimp only at t0 t1 y1 y2 y3 ⊢
  unfold wp_X9_settles_B53
  refine ⟨inR_of (by omega) (by omega), fun q => ?_, fun q => ⟨⟨by omega, by omega⟩, ⟨by omega, by omega⟩, ?_⟩⟩
  rotate_left
  · rintro _ rfl
    refine hX _ ⟨⟨by dsimp only; omega, by dsimp only; omega⟩, fun c hc => by dsimp only; rw [up_ne hc, y1 c hc], fun i hi => by dsimp only; rw [up_eq, if_neg (by omega)]; exact y2 i hi, fun i i0 i1 => ?_⟩ (by dsimp only; omega)
    dsimp only at i1 ⊢
    rw [up_eq]
    by_cases z : i = t
    · rw [if_pos z, z]; exact y2 _ (by omega)
    · rw [if_neg z]; exact y3 i i0 (by omega)
  have y3' : ∀ i, 0 ≤ i → i < 5 → y 65 i = h 65 (5 + i) := fun i i0 i1 => y3 i i0 (by omega)
  clear hX y3 y2
  -- all now is nothing
  refine lp.rule (μ := fun z => (24 - z.1).toNat) (I := fun z => (0 ≤ z.1 ∧ z.1 ≤ 23) ∧ (∀ c, c ≠ 66 → z.2 c = y c) ∧ ∀ i, 0 ≤ i → i < z.1 → z.2 66 i = 0) ?_ (0, y) ⟨⟨by dsimp only; omega, by dsimp only; omega⟩, fun _ _ => rfl, fun i i0 i1 => by dsimp only at i1; omega⟩
  rintro X ⟨t, z⟩ ⟨⟨t0, t1⟩, z1, z2⟩ hX
  dsimp only at t0 t1 z1 z2 ⊢
  unfold wp_X9_settles_B80
  refine ⟨inR_of (by omega) (by omega), fun q => ?_, fun q => ⟨⟨by omega, by omega⟩, ?_⟩⟩
  rotate_left
  · rintro _ rfl
    refine hX _ ⟨⟨by dsimp only; omega, by dsimp only; omega⟩, fun c hc => by dsimp only; rw [up_ne hc, z1 c hc], fun i i0 i1 => ?_⟩ (by dsimp only; omega)
    dsimp only at i1 ⊢
    rw [up_eq]
    by_cases w : i = t
    · rw [if_pos w]
    · rw [if_neg w]; exact z2 i i0 (by omega)
  have z2' : ∀ i, 0 ≤ i → i < 23 → z 66 i = 0 := fun i i0 i1 => z2 i i0 (by omega)
  clear hX z2
  have zc : ∀ c, c ≠ 61 → c ≠ 62 → c ≠ 65 → c ≠ 66 → z c = h c := fun c c1 c2 c3 c4 => by rw [z1 c c4, y1 c c3, g1 c c2, k1 c c1]
  have z61 : z 61 = h1 61 := by rw [z1 61 (by decide), y1 61 (by decide), g1 61 (by decide)]
  have z62 : z 62 = g 62 := by rw [z1 62 (by decide), y1 62 (by decide)]
  have z65 : z 65 = y 65 := by rw [z1 65 (by decide)]
  -- what grows, what is held
  refine lp.rule (μ := fun v => (17 - v.1).toNat) (I := fun v => (0 ≤ v.1 ∧ v.1 ≤ 16) ∧ (∀ c, c ≠ 64 → c ≠ 66 → v.2 c = z c) ∧ (∀ i : Int, 16 ≤ i → v.2 64 i = h 64 i) ∧ (∀ i, 0 ≤ i → i < v.1 → v.2 64 i = h 64 (16 + i)) ∧ v.2 66 0 = 0 ∧ (∀ i, 0 ≤ i → i < v.1 → v.2 66 (1 + i) = if 4 * n ≤ i then 0 else h 63 i) ∧ ∀ i, 17 ≤ i → i < 23 → v.2 66 i = 0) ?_ (0, z) ⟨⟨by dsimp only; omega, by dsimp only; omega⟩, fun _ _ _ => rfl, fun i _ => by dsimp only; rw [zc 64 (by decide) (by decide) (by decide) (by decide)], fun i i0 i1 => by dsimp only at i1; omega, z2' 0 (by omega) (by omega), fun i i0 i1 => by dsimp only at i1; omega, fun i i0 i1 => z2' i (by omega) i1⟩
  rintro X ⟨t, v⟩ ⟨⟨t0, t1⟩, v1, v2, v3, v4, v5, v6⟩ hX
  dsimp only at t0 t1 v1 v2 v3 v4 v5 v6 ⊢
  have v61 : v 61 0 = n := by rw [v1 61 (by decide) (by decide), z61]; exact a1
  unfold wp_X9_settles_B101
  refine ⟨inR_of (by omega) (by omega), fun q => ?_, fun q => ⟨⟨by omega, by omega⟩, ⟨by omega, by omega⟩, ?_⟩⟩
  · have et : t = 16 := by omega
    subst et
    rintro _ rfl
    rintro _ rfl
    rintro _ rfl
    rintro _ rfl
    rintro _ rfl
    rintro _ rfl
    generalize hm : up (up (up (up (up (up v 59 3 0) 59 22 0) 59 25 0) 59 18 0) 68 0 0) 68 1 0 = m
    have mc : ∀ c, c ≠ 59 → c ≠ 68 → m c = v c := fun c c1 c2 => by rw [← hm, up_ne c2, up_ne c2, up_ne c1, up_ne c1, up_ne c1, up_ne c1]
    have m59 : ∀ i, m 59 i = if i = 18 then 0 else if i = 25 then 0 else if i = 22 then 0 else if i = 3 then 0 else v 59 i := fun i => by rw [← hm, up_ne (by decide), up_ne (by decide), up_eq, up_eq, up_eq, up_eq]
    have m0 : m 68 0 = 0 := by rw [← hm, up_eq, if_neg (by decide), up_eq, if_pos rfl]
    have m1 : m 68 1 = 0 := by rw [← hm, up_eq, if_pos rfl]
    have em : m 61 0 = n := by rw [mc 61 (by decide) (by decide)]; exact v61
    refine spM_orders hn em (fun o o1 o2 o3 o4 => spM_worsts hn (by rw [o1 61 (by decide) (by decide)]; exact em) o3 o4 (fun w w1 w2 => ?_))
    have wc : ∀ c, c ≠ 59 → c ≠ 75 → c ≠ 76 → c ≠ 77 → w c = m c := fun c c1 c2 c3 c4 => by rw [w1 c c3 c4, o1 c c1 c2]
    have w59 : ∀ i, ¬ i = 27 → w 59 i = m 59 i := fun i hi => by rw [w1 59 (by decide) (by decide)]; exact o2 i hi
    have w64 : w 64 = v 64 := by rw [wc 64 (by decide) (by decide) (by decide) (by decide), mc 64 (by decide) (by decide)]
    have w66 : w 66 = v 66 := by rw [wc 66 (by decide) (by decide) (by decide) (by decide), mc 66 (by decide) (by decide)]
    have w61 : w 61 = h1 61 := by rw [wc 61 (by decide) (by decide) (by decide) (by decide), mc 61 (by decide) (by decide), v1 61 (by decide) (by decide), z61]
    have w62 : w 62 = g 62 := by rw [wc 62 (by decide) (by decide) (by decide) (by decide), mc 62 (by decide) (by decide), v1 62 (by decide) (by decide), z62]
    have w65 : w 65 = y 65 := by rw [wc 65 (by decide) (by decide) (by decide) (by decide), mc 65 (by decide) (by decide), v1 65 (by decide) (by decide), z65]
    have w68 : w 68 = m 68 := wc 68 (by decide) (by decide) (by decide) (by decide)
    refine kk w (fun c c1 c2 c3 c4 c5 c6 c7 c8 c9 c10 => by rw [wc c c1 c8 c9 c10, mc c c1 c7, v1 c c4 c6, zc c c2 c3 c5 c6]) (by rw [w61]; exact a1) (by rw [w61]; exact a2) (fun i i0 i1 => by rw [w62]; exact g3' i i0 i1) (fun i i0 i1 => by rw [w64]; exact v3 i i0 i1) (fun i i0 i1 => by rw [w65]; exact y3' i i0 i1) (by rw [w66]; exact v4) (fun i i0 i1 => by rw [w66]; exact v5 i i0 i1) (fun i i0 i1 => by rw [w66]; exact v6 i i0 i1) (by rw [w59 3 (by decide), m59]; rfl) (by rw [w59 22 (by decide), m59]; rfl) (by rw [w59 25 (by decide), m59]; rfl) (by rw [w59 18 (by decide), m59]; rfl) ?_ (by rw [w68]; exact m0) (by rw [w68]; exact m1) w2
    rw [w59 1 (by decide), m59, if_neg (by decide), if_neg (by decide), if_neg (by decide), if_neg (by decide), v1 59 (by decide) (by decide), zc 59 (by decide) (by decide) (by decide) (by decide)]
  · rintro _ rfl
    have u61 : up v 64 t (v 64 (16 + t)) 61 0 = n := by rw [up_ne (by decide)]; exact v61
    have u63 : up v 64 t (v 64 (16 + t)) 63 t = h 63 t := by rw [up_ne (by decide), v1 63 (by decide) (by decide), zc 63 (by decide) (by decide) (by decide) (by decide)]
    rw [u61, u63]
    refine ⟨⟨inR_of (by omega) (by omega), fun _ => trivial, fun _ => ⟨⟨by omega, by omega⟩, trivial⟩⟩, ⟨by omega, by omega⟩, ?_⟩
    rintro _ rfl
    refine hX _ ⟨⟨by dsimp only; omega, by dsimp only; omega⟩, fun c c1 c2 => by dsimp only; rw [up_ne c2, up_ne c1, v1 c c1 c2], fun i hi => by dsimp only; rw [up_ne (by decide), up_eq, if_neg (by omega)]; exact v2 i hi, fun i i0 i1 => ?_, by dsimp only; rw [up_eq, if_neg (by omega), up_ne (by decide)]; exact v4, fun i i0 i1 => ?_, fun i i0 i1 => by dsimp only; rw [up_eq, if_neg (by omega), up_ne (by decide)]; exact v6 i i0 i1⟩ (by dsimp only; omega)
    · dsimp only at i1 ⊢
      rw [up_ne (by decide), up_eq]
      by_cases w : i = t
      · rw [if_pos w, w]; exact v2 _ (by omega)
      · rw [if_neg w]; exact v3 i i0 (by omega)
    · dsimp only at i1 ⊢
      rw [up_eq]
      by_cases w : i = t
      · rw [if_pos (by omega), w]
      · rw [if_neg (by omega), up_ne (by decide)]; exact v5 i i0 (by omega)
