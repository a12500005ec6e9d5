-- THE PURE PART. What class and reference hold alike.
theorem up_row (h : aH) (k : Nat) (i x : Int) (k' : Nat) : up h k i x k' = if k' = k then (fun j => if j = i then x else h k j) else h k' := by
  funext j
  by_cases hk : k' = k
  · subst hk
    simp [up]
  · simp [up, hk]
theorem up_ne {h : aH} {k : Nat} {i x : Int} {k' : Nat} (hk : k' ≠ k) : up h k i x k' = h k' := by rw [up_row, if_neg hk]
theorem up_eq {h : aH} {k : Nat} {i x : Int} {j : Int} : up h k i x k j = if j = i then x else h k j := by rw [up_row, if_pos rfl]
/-- what is known of pair i (0 .. 5) in the class's number -/
def fnd (P i : Nat) : Nat := P / 4 ^ i % 4
/-- the class's 1, 2, 3 (lower, higher, alike) as the reference has them -/
def cmc (x : Nat) : Int := if x = 0 then 0 else if x = 1 then 2 else if x = 2 then 3 else 1
/-- the class's number of a pair as the reference counts it -/
def ppi (i : Nat) : Nat := if i = 2 then 3 else if i = 3 then 2 else i
def pcn (n : Int) : Nat := n.toNat * (n.toNat - 1) / 2
/-- a moment: day, pairs, what all hold; and the reference's row of it -/
def MR (n day pairs : Int) (held s : Int → Int) : Prop := (0 ≤ day ∧ day ≤ 999) ∧ s 0 = day ∧ (∀ i, 0 ≤ i → i < 16 → s (1 + i) = held i ∧ 0 ≤ held i ∧ held i ≤ 9) ∧ (0 ≤ pairs ∧ pairs < ((4 ^ pcn n : Nat) : Int)) ∧ ∀ i : Nat, i < 6 → s (17 + (ppi i : Int)) = cmc (fnd pairs.toNat i)
theorem MR.cong {n d p : Int} {f f' s s' : Int → Int} (h : MR n d p f s) (hf : ∀ i, 0 ≤ i → i < 16 → f' i = f i) (hs : ∀ i, 0 ≤ i → i < 23 → s' i = s i) : MR n d p f' s' := by
  obtain ⟨h1, h2, h3, h4, h5⟩ := h
  refine ⟨h1, by rw [hs 0 (by omega) (by omega)]; exact h2, fun i hi hj => ?_, h4, fun i hi => ?_⟩
  · rw [hs (1 + i) (by omega) (by omega), hf i hi hj]
    exact h3 i hi hj
  · rw [hs _ (by omega) (by unfold ppi; split <;> (try split) <;> omega)]
    exact h5 i hi
-- the text
def ITx (l t : Int) (a b : Int → Int) : Prop := l = t ∧ 0 ≤ l ∧ l ≤ 150 ∧ ∀ i, 0 ≤ i → i < l → a i = b i ∧ 0 ≤ a i ∧ a i < 256
def IT (h : aH) : Prop := ITx (h 1 1) (h 59 3) (h 2) (h 60)
-- what was told
def ILx (n pc n' pc' : Int) (w w' gr gr' b b' : Int → Int) : Prop := (0 ≤ n ∧ n ≤ 4) ∧ (0 ≤ pc ∧ pc ≤ 5) ∧ n' = n ∧ pc' = pc ∧ (∀ i, 0 ≤ i → i < 4 → w' i = w i ∧ 1 ≤ w i ∧ w i ≤ 20) ∧ (∀ i, 0 ≤ i → i < 16 → gr' i = gr i ∧ 0 ≤ gr i ∧ gr i ≤ 3 ∧ (4 * n ≤ i → gr i = 0)) ∧ ∀ i, 0 ≤ i → i < pc → b' i = b i ∧ 1 ≤ b i ∧ b i ≤ 60
def IL (h : aH) : Prop := ILx (h 3 4) (h 3 5) (h 61 0) (h 61 1) (h 4) (h 62) (h 6) (h 64) (h 7) (h 65)
-- what can be undone
def rpos (nx sz j : Int) : Nat := ((nx + 10 - sz + j) % 10).toNat
def IU (h : aH) : Prop := (0 ≤ h 15 1 ∧ h 15 1 < 10) ∧ (0 ≤ h 15 2 ∧ h 15 2 ≤ 10) ∧ h 59 18 = h 15 2 ∧ ∀ j, 0 ≤ j → j < h 15 2 → MR (h 3 4) (h (17 + 2 * rpos (h 15 1) (h 15 2) j) 1) (h (17 + 2 * rpos (h 15 1) (h 15 2) j) 2) (h (18 + 2 * rpos (h 15 1) (h 15 2) j)) (fun i => h 69 (23 * j + i))
-- the images
def II1 (n : Int) (kc km : Int) (d p : Int) (f s : Int → Int) : Prop := km = kc ∧ (kc = 0 ∨ kc = 1) ∧ (kc = 1 → MR n d p f s)
def II (h : aH) : Prop := II1 (h 3 4) (h 42 0) (h 68 0) (h 38 1) (h 38 2) (h 39) (fun i => h 67 i) ∧ II1 (h 3 4) (h 42 1) (h 68 1) (h 40 1) (h 40 2) (h 41) (fun i => h 67 (23 + i))
-- what was shown, seen
def IEx (c c' : Int) (a b d a' b' d' : Int → Int) : Prop := c' = c ∧ 0 ≤ c ∧ c ≤ 6 ∧ ∀ i, 0 ≤ i → i < c → (a' i = a i ∧ b' i = b i ∧ d' i = d i) ∧ (0 ≤ a i ∧ a i ≤ 3) ∧ (0 ≤ b i ∧ b i ≤ 720) ∧ 0 ≤ d i ∧ d i ≤ 2
def IE (h : aH) : Prop := IEx (h 52 7) (h 59 22) (h 53) (h 54) (h 55) (h 70) (h 71) (h 72) ∧ IEx (h 52 8) (h 59 25) (h 56) (h 57) (fun _ => 0) (h 73) (h 74) (fun _ => 0)
-- how many ways to a heaviness
def wof (w : Int → Int) (v : Nat) : Int := w 0 * (v / 1000 : Nat) + w 1 * (v / 100 % 10 : Nat) + w 2 * (v / 10 % 10 : Nat) + w 3 * (v % 10 : Nat)
def ctN (p : Nat → Bool) : Nat → Nat
  | 0 => 0
  | k + 1 => ctN p k + if p k then 1 else 0
def WAYS (st : Int) (w f : Int → Int) : Prop := (st = 0 ∨ st = 1) ∧ (st = 1 → ∀ v, 0 ≤ v → v ≤ 720 → f v = (ctN (fun k => decide (wof w k = v)) 10000 : Nat))
-- brass: of the ways k = 32 a + b (a, b: pans) in this order the first with fewest pieces
def bits5 (a : Nat) : Nat := a % 2 + a / 2 % 2 + a / 4 % 2 + a / 8 % 2 + a / 16 % 2
def psum (pc : Nat) (b : Int → Int) (a : Nat) : Int := match pc with
  | 0 => 0
  | k + 1 => psum k b a + if a / 2 ^ k % 2 = 1 then b (k : Int) else 0
/-- the way k can be used for v -/
def wayOk (pc : Nat) (b : Int → Int) (v : Int) (k : Nat) : Bool := decide (k / 32 < 2 ^ pc) && decide (k % 32 < 2 ^ pc) && decide (k / 32 &&& k % 32 = 0) && decide (psum pc b (k / 32) - psum pc b (k % 32) = v)
def bst (pc : Nat) (b : Int → Int) (v : Int) : Nat → Int
  | 0 => -9
  | k + 1 => if wayOk pc b v k && (decide (bst pc b v k = -9) || decide (bits5 (k / 32) + bits5 (k % 32) < bits5 ((bst pc b v k).toNat / 32) + bits5 ((bst pc b v k).toNat % 32))) then (k : Int) else bst pc b v k
def DRAW (pc : Int) (b f : Int → Int) : Prop := ∀ v, 0 ≤ v → v ≤ 300 → f v = bst pc.toNat b v 1024
-- orders. The reference's pairs: lower and upper
def lo6 (j : Nat) : Nat := if j < 3 then 0 else if j < 5 then 1 else 2
def up6 (j : Nat) : Nat := if j < 3 then j + 1 else if j < 5 then j - 1 else 3
/-- ranks of the people in v, what is spare in it, what it shows of pairs -/
def rkN (n v : Nat) : Nat → Nat
  | 0 => 0
  | k + 1 => rkN n v k ||| (if k < n then 2 ^ fnd v k else 0)
def spN (n v : Nat) : Nat → Nat
  | 0 => 0
  | k + 1 => spN n v k ||| (if k < n then 0 else fnd v k)
def shw (a b : Nat) : Nat := if a ≤ b then (if b ≤ a then 1 else 3) else 2
def cdN (n v : Nat) : Nat → Nat
  | 0 => 0
  | k + 1 => cdN n v k ||| (if up6 k < n then shw (fnd v (lo6 k)) (fnd v (up6 k)) * 4 ^ k else 0)
def okV (n v : Nat) : Bool := decide (spN n v 4 = 0) && decide (rkN n v 4 &&& (rkN n v 4 + 1) = 0)
/-- an order is as is known -/
def cns (c o : Nat) : Bool := (List.range 6).all (fun i => decide (fnd c i = 0) || decide (fnd c i = fnd o i))
/-- what is known, one finding set anew -/
def setF (P i v : Nat) : Nat := P - fnd P i * 4 ^ i + v * 4 ^ i
/-- the reference's number of what is known -/
def mcode (P : Nat) : Nat := (cmc (fnd P 0)).toNat + 4 * (cmc (fnd P 1)).toNat + 16 * (cmc (fnd P 3)).toNat + 64 * (cmc (fnd P 2)).toNat + 256 * (cmc (fnd P 4)).toNat + 1024 * (cmc (fnd P 5)).toNat
/-- how many orders are left -/
def MO (n P : Nat) : Nat := ctN (fun v => okV n v && cns (mcode P) (cdN n v 6)) 256
def mxW (g : Nat → Int) (P i : Nat) : Int := max (g (setF P i 1)) (max (g (setF P i 2)) (g (setF P i 3)))
def unkI (m P i : Nat) : Prop := i < m ∧ fnd P i = 0
/-- g is the worst at P, if it is behind it -/
def WR (n P : Nat) (g : Nat → Int) : Prop := (MO n P ≤ 1 → g P = 0) ∧ (1 < MO n P → (∃ i, unkI (n * (n - 1) / 2) P i ∧ g P = 1 + mxW g P i) ∧ ∀ i, unkI (n * (n - 1) / 2) P i → g P ≤ 1 + mxW g P i)
def ORDC (n pc : Int) (f : Int → Int) : Prop := n = -1 ∨ (0 ≤ n ∧ n ≤ 4 ∧ pc = (pcn n : Int) ∧ ∀ P : Nat, P < 4 ^ pcn n → (0 ≤ f P ∧ f P < 32768) ∧ f P / 8 = (MO n.toNat P : Int) ∧ f P % 8 ≤ 6 ∧ WR n.toNat P (fun P => f (P : Int) % 8))
def ORDM (n : Int) (f u : Int → Int) : Prop := ∀ P : Nat, P < 4 ^ pcn n → f (mcode P : Int) = (MO n.toNat P : Int) ∧ WR n.toNat P (fun P => u (mcode P : Int))
def ITR (t t' c : Int) : Prop := t' = t ∧ 0 ≤ t ∧ t ≤ 100001 * c
/-- what holds between two calls, c calls having been made -/
def Inv (c : Int) (h : aH) : Prop := IT h ∧ IL h ∧ MR (h 3 4) (h 13 1) (h 13 2) (h 14) (h 66) ∧ IU h ∧ II h ∧ IE h ∧ WAYS (h 52 6) (h 4) (h 58) ∧ ORDC (h 43 2) (h 43 3) (h 44) ∧ ORDM (h 3 4) (h 76) (h 77) ∧ DRAW (h 3 5) (h 7) (h 48) ∧ ITR (h 0 11) (h 59 1) c
-- frames
theorem IT.fr {h h' : aH} (i : IT h) (h1 : h' 1 1 = h 1 1) (h2 : h' 59 3 = h 59 3) (h3 : h' 2 = h 2) (h4 : h' 60 = h 60) : IT h' := by unfold IT; rw [h1, h2, h3, h4]; exact i
theorem IL.fr {h h' : aH} (i : IL h) (h1 : h' 3 4 = h 3 4) (h2 : h' 3 5 = h 3 5) (h3 : h' 61 = h 61) (h4 : h' 4 = h 4) (h5 : h' 62 = h 62) (h6 : h' 6 = h 6) (h7 : h' 64 = h 64) (h8 : h' 7 = h 7) (h9 : h' 65 = h 65) : IL h' := by unfold IL; rw [h1, h2, h3, h4, h5, h6, h7, h8, h9]; exact i
theorem IU.fr {h h' : aH} (i : IU h) (h0 : h' 3 4 = h 3 4) (h1 : h' 15 1 = h 15 1) (h2 : h' 15 2 = h 15 2) (h3 : h' 59 18 = h 59 18) (h4 : h' 69 = h 69) (h5 : ∀ k, 17 ≤ k → k ≤ 36 → h' k = h k) : IU h' := by
  unfold IU
  rw [h0, h1, h2, h3, h4]
  obtain ⟨a, b, c, d⟩ := i
  refine ⟨a, b, c, fun j hj hk => ?_⟩
  have hr : rpos (h 15 1) (h 15 2) j < 10 := by unfold rpos; omega
  rw [h5 (17 + 2 * rpos (h 15 1) (h 15 2) j) (by omega) (by omega), h5 (18 + 2 * rpos (h 15 1) (h 15 2) j) (by omega) (by omega)]
  exact d j hj hk
theorem II.fr {h h' : aH} (i : II h) (h0 : h' 3 4 = h 3 4) (h1 : h' 42 = h 42) (h2 : h' 68 = h 68) (h3 : h' 67 = h 67) (h4 : h' 38 = h 38) (h5 : h' 39 = h 39) (h6 : h' 40 = h 40) (h7 : h' 41 = h 41) : II h' := by unfold II; rw [h0, h1, h2, h3, h4, h5, h6, h7]; exact i
theorem IE.fr {h h' : aH} (i : IE h) (h1 : h' 52 7 = h 52 7) (h2 : h' 52 8 = h 52 8) (h3 : h' 59 22 = h 59 22) (h4 : h' 59 25 = h 59 25) (h5 : ∀ k, 53 ≤ k → k ≤ 57 → h' k = h k) (h6 : ∀ k, 70 ≤ k → k ≤ 74 → h' k = h k) : IE h' := by
  unfold IE
  rw [h1, h2, h3, h4, h5 53 (by omega) (by omega), h5 54 (by omega) (by omega), h5 55 (by omega) (by omega), h5 56 (by omega) (by omega), h5 57 (by omega) (by omega), h6 70 (by omega) (by omega), h6 71 (by omega) (by omega), h6 72 (by omega) (by omega), h6 73 (by omega) (by omega), h6 74 (by omega) (by omega)]
  exact i
theorem ITR.up {t t' c c' : Int} (h : ITR t t' c) (hc : c ≤ c') : ITR t t' c' := ⟨h.1, h.2.1, by have := h.2.2; omega⟩
/-- nothing but what a call may touch freely has changed -/
theorem Inv.fr {c c' : Int} {h h' : aH} (i : Inv c h) (hc : c ≤ c') (hk : ∀ k, k ≠ 59 → k ≠ 1 → k ≠ 45 → k ≠ 47 → k ≠ 49 → k ≠ 50 → k ≠ 51 → k ≠ 78 → k ≠ 79 → h' k = h k) (h11 : h' 1 1 = h 1 1) (h1 : h' 59 1 = h 59 1) (h3 : h' 59 3 = h 59 3) (h18 : h' 59 18 = h 59 18) (h22 : h' 59 22 = h 59 22) (h25 : h' 59 25 = h 59 25) : Inv c' h' := by
  have e : ∀ k, k ≠ 59 → k ≠ 1 → k ≠ 45 → k ≠ 47 → k ≠ 49 → k ≠ 50 → k ≠ 51 → k ≠ 78 → k ≠ 79 → h' k = h k := hk
  have s : ∀ k, (k < 45 ∧ k ≠ 1) ∨ k = 46 ∨ k = 48 ∨ (52 ≤ k ∧ k < 59) ∨ (59 < k ∧ k < 78) → h' k = h k := fun k q => hk k (by omega) (by omega) (by omega) (by omega) (by omega) (by omega) (by omega) (by omega) (by omega)
  obtain ⟨i1, i2, i3, i4, i5, i6, i7, i8, i9, i10, i11⟩ := i
  refine ⟨i1.fr h11 h3 (s 2 (by omega)) (s 60 (by omega)), i2.fr (by rw [s 3 (by omega)]) (by rw [s 3 (by omega)]) (s 61 (by omega)) (s 4 (by omega)) (s 62 (by omega)) (s 6 (by omega)) (s 64 (by omega)) (s 7 (by omega)) (s 65 (by omega)), ?_, i4.fr (by rw [s 3 (by omega)]) (by rw [s 15 (by omega)]) (by rw [s 15 (by omega)]) h18 (s 69 (by omega)) (fun k q1 q2 => s k (by omega)), i5.fr (by rw [s 3 (by omega)]) (s 42 (by omega)) (s 68 (by omega)) (s 67 (by omega)) (s 38 (by omega)) (s 39 (by omega)) (s 40 (by omega)) (s 41 (by omega)), i6.fr (by rw [s 52 (by omega)]) (by rw [s 52 (by omega)]) h22 h25 (fun k q1 q2 => s k (by omega)) (fun k q1 q2 => s k (by omega)), ?_, ?_, ?_, ?_, ?_⟩
  · rw [s 3 (by omega), s 13 (by omega), s 14 (by omega), s 66 (by omega)]; exact i3
  · rw [s 52 (by omega), s 4 (by omega), s 58 (by omega)]; exact i7
  · rw [s 43 (by omega), s 44 (by omega)]; exact i8
  · rw [s 3 (by omega), s 76 (by omega), s 77 (by omega)]; exact i9
  · rw [s 3 (by omega), s 7 (by omega), s 48 (by omega)]; exact i10
  · rw [s 0 (by omega), h1]; exact i11.up hc
