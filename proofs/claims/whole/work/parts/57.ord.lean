-- orders, worst: what both tables hold
theorem p4_2 (i : Nat) : 4 ^ i = 2 ^ (2 * i) := (Nat.pow_mul 2 2 i).symm
theorem fnd_or {a b i : Nat} : fnd (a ||| b) i = fnd a i ||| fnd b i := by
  unfold fnd
  rw [p4_2, Nat.or_div_two_pow, show (4 : Nat) = 2 ^ 2 from rfl, Nat.or_mod_two_pow]
theorem fnd_and {a b i : Nat} : fnd (a &&& b) i = fnd a i &&& fnd b i := by
  unfold fnd
  rw [p4_2, Nat.and_div_two_pow, show (4 : Nat) = 2 ^ 2 from rfl, Nat.and_mod_two_pow]
theorem fnd_xor {a b i : Nat} : fnd (a ^^^ b) i = fnd a i ^^^ fnd b i := by
  unfold fnd
  rw [p4_2, Nat.xor_div_two_pow, show (4 : Nat) = 2 ^ 2 from rfl, Nat.xor_mod_two_pow]
theorem fnd_lt {P i : Nat} : fnd P i < 4 := Nat.mod_lt _ (by decide)
theorem fsh_all : (List.range 4).all (fun v => (List.range 6).all (fun i => (List.range 6).all (fun j => fnd (v * 4 ^ i) j == if j = i then v else 0))) = true := by decide +kernel
theorem fnd_sh {v i j : Nat} (hv' : v < 4) (hi : i < 6) (hj : j < 6) : fnd (v * 4 ^ i) j = if j = i then v else 0 := eq_of_beq (List.all_eq_true.mp (List.all_eq_true.mp (List.all_eq_true.mp fsh_all v (List.mem_range.mpr hv')) i (List.mem_range.mpr hi)) j (List.mem_range.mpr hj))
theorem fnd_sum {P : Nat} (hP : P < 4096) : P = fnd P 0 + 4 * fnd P 1 + 16 * fnd P 2 + 64 * fnd P 3 + 256 * fnd P 4 + 1024 * fnd P 5 := by
  unfold fnd
  simp only [Nat.pow_zero, Nat.reducePow]
  omega
theorem fnd_ext {P P' : Nat} (hP : P < 4096) (hP' : P' < 4096) (h : ∀ i, i < 6 → fnd P i = fnd P' i) : P = P' := by
  rw [fnd_sum hP, fnd_sum hP', h 0 (by decide), h 1 (by decide), h 2 (by decide), h 3 (by decide), h 4 (by decide), h 5 (by decide)]
theorem fnd_dig {a0 a1 a2 a3 a4 a5 : Nat} (h0 : a0 < 4) (h1 : a1 < 4) (h2 : a2 < 4) (h3 : a3 < 4) (h4 : a4 < 4) (h5 : a5 < 4) : fnd (a0 + 4 * a1 + 16 * a2 + 64 * a3 + 256 * a4 + 1024 * a5) 0 = a0 ∧ fnd (a0 + 4 * a1 + 16 * a2 + 64 * a3 + 256 * a4 + 1024 * a5) 1 = a1 ∧ fnd (a0 + 4 * a1 + 16 * a2 + 64 * a3 + 256 * a4 + 1024 * a5) 2 = a2 ∧ fnd (a0 + 4 * a1 + 16 * a2 + 64 * a3 + 256 * a4 + 1024 * a5) 3 = a3 ∧ fnd (a0 + 4 * a1 + 16 * a2 + 64 * a3 + 256 * a4 + 1024 * a5) 4 = a4 ∧ fnd (a0 + 4 * a1 + 16 * a2 + 64 * a3 + 256 * a4 + 1024 * a5) 5 = a5 := by
  unfold fnd
  simp only [Nat.pow_zero, Nat.reducePow]
  refine ⟨by omega, by omega, by omega, by omega, by omega, by omega⟩
def cmT (x : Nat) : Nat := (cmc x).toNat
theorem cmT_lt {x : Nat} : cmT x < 4 := by unfold cmT cmc; repeat' split
                                           all_goals decide
theorem cmT_inj {x y : Nat} (hx : x < 4) (hy : y < 4) (h : cmT x = cmT y) : x = y := by
  have : ∀ x : Fin 4, ∀ y : Fin 4, cmT x.val = cmT y.val → x.val = y.val := by decide
  exact this ⟨x, hx⟩ ⟨y, hy⟩ h
theorem fnd_mcode {P j : Nat} (hj : j < 6) : fnd (mcode P) j = cmT (fnd P (ppi j)) := by
  obtain ⟨e0, e1, e2, e3, e4, e5⟩ := fnd_dig (cmT_lt (x := fnd P 0)) (cmT_lt (x := fnd P 1)) (cmT_lt (x := fnd P 3)) (cmT_lt (x := fnd P 2)) (cmT_lt (x := fnd P 4)) (cmT_lt (x := fnd P 5))
  exact six (p := fun j => fnd (mcode P) j = cmT (fnd P (ppi j))) hj e0 e1 e2 e3 e4 e5
theorem mcode_lt {P : Nat} : mcode P < 4096 := by
  have h0 := cmT_lt (x := fnd P 0)
  have h1 := cmT_lt (x := fnd P 1)
  have h2 := cmT_lt (x := fnd P 2)
  have h3 := cmT_lt (x := fnd P 3)
  have h4 := cmT_lt (x := fnd P 4)
  have h5 := cmT_lt (x := fnd P 5)
  unfold cmT at *
  unfold mcode
  omega
theorem ppi_lt {i : Nat} (hi : i < 6) : ppi i < 6 := by unfold ppi; split <;> (try split) <;> omega
theorem ppi_ppi {i : Nat} : ppi (ppi i) = i := by
  unfold ppi
  by_cases h2 : i = 2
  · rw [if_pos h2, if_neg (by omega), if_pos rfl, h2]
  · rw [if_neg h2]
    by_cases h3 : i = 3
    · rw [if_pos h3, if_pos rfl, h3]
    · rw [if_neg h3, if_neg h2, if_neg h3]
theorem setF4 {P i v : Nat} (hP : P < 4096) (hi : i < 6) (hv' : v ≤ 3) : setF P i v < 4096 := setF_lt (n := 4) (by omega) hP hi hv'
theorem mcode_set {P i v : Nat} (hP : P < 4096) (hi : i < 6) (hv' : v ≤ 3) : mcode (setF P i v) = setF (mcode P) (ppi i) (cmT v) := by
  have c4 := cmT_lt (x := v)
  refine fnd_ext mcode_lt (setF4 mcode_lt (ppi_lt hi) (by omega)) (fun j hj => ?_)
  rw [fnd_mcode hj, fnd_set hP hi (ppi_lt hj) hv', fnd_set mcode_lt (ppi_lt hi) hj (by omega), fnd_mcode hj]
  by_cases q : ppi j = i
  · rw [if_pos q, if_pos (by rw [← q, ppi_ppi])]
  · rw [if_neg q, if_neg (fun z => q (by rw [z, ppi_ppi]))]
theorem mcode_inj {P P' : Nat} (hP : P < 4096) (hP' : P' < 4096) (h : mcode P = mcode P') : P = P' := by
  refine fnd_ext hP hP' (fun i hi => ?_)
  have e1 := fnd_mcode (P := P) (ppi_lt hi)
  have e2 := fnd_mcode (P := P') (ppi_lt hi)
  rw [ppi_ppi] at e1 e2
  rw [h, e2] at e1
  exact (cmT_inj fnd_lt fnd_lt e1).symm
theorem setF_e {P i v : Nat} (hf : fnd P i = 0) : setF P i v = P + v * 4 ^ i := by
  unfold setF
  rw [hf, Nat.zero_mul, Nat.sub_zero]
theorem setF_gt {P i v : Nat} (hf : fnd P i = 0) (hv' : 1 ≤ v) : P < setF P i v := by
  rw [setF_e hf]
  have := Nat.mul_le_mul hv' (Nat.one_le_two_pow (n := 2 * i))
  rw [← p4_2] at this
  omega
theorem cns_iff {c o : Nat} : cns c o = true ↔ ∀ i, i < 6 → fnd c i = 0 ∨ fnd c i = fnd o i := by
  unfold cns
  rw [List.all_eq_true]
  constructor
  · intro h i hi
    have := h i (List.mem_range.mpr hi)
    rw [Bool.or_eq_true, decide_eq_true_iff, decide_eq_true_iff] at this
    exact this
  · intro h i hi
    rw [Bool.or_eq_true, decide_eq_true_iff, decide_eq_true_iff]
    exact h i (List.mem_range.mp hi)
theorem shw_rng {a b : Nat} : 1 ≤ shw a b ∧ shw a b ≤ 3 := by unfold shw; split <;> (try split) <;> omega
theorem fnd_0 {i : Nat} : fnd 0 i = 0 := by unfold fnd; rw [Nat.zero_div]
theorem fnd_cd {n v j : Nat} (hj : j < 6) : ∀ {k : Nat}, k ≤ 6 → fnd (cdN n v k) j = if j < k ∧ up6 j < n then shw (fnd v (lo6 j)) (fnd v (up6 j)) else 0
  | 0, _ => by rw [if_neg (by omega)]; exact fnd_0
  | k + 1, hk => by
    show fnd (cdN n v k ||| (if up6 k < n then shw (fnd v (lo6 k)) (fnd v (up6 k)) * 4 ^ k else 0)) j = _
    rw [fnd_or, fnd_cd hj (k := k) (by omega)]
    have s := shw_rng (a := fnd v (lo6 k)) (b := fnd v (up6 k))
    by_cases q : j = k
    · rw [if_neg (by omega), Nat.zero_or]
      by_cases z : up6 k < n
      · rw [if_pos z, fnd_sh (by omega) (by omega) hj, if_pos q, if_pos ⟨by omega, by rw [q]; exact z⟩, q]
      · rw [if_neg z, fnd_0, if_neg (fun y => z (by rw [← q]; exact y.2))]
    · have e : fnd (if up6 k < n then shw (fnd v (lo6 k)) (fnd v (up6 k)) * 4 ^ k else 0) j = 0 := by
        split
        · rw [fnd_sh (by omega) (by omega) hj, if_neg q]
        · exact fnd_0
      rw [e, Nat.or_zero]
      by_cases z : j < k ∧ up6 j < n
      · rw [if_pos z, if_pos ⟨by omega, z.2⟩]
      · rw [if_neg z, if_neg (fun y => z ⟨by omega, y.2⟩)]
theorem cd_lt {n v : Nat} : ∀ {k : Nat}, k ≤ 6 → cdN n v k < 4096
  | 0, _ => by show (0 : Nat) < 4096; decide
  | k + 1, hk => by
    have a := cd_lt (n := n) (v := v) (k := k) (by omega)
    have s := shw_rng (a := fnd v (lo6 k)) (b := fnd v (up6 k))
    have p : 4 ^ k ≤ 4 ^ 5 := Nat.pow_le_pow_right (by decide) (by omega)
    have m := Nat.mul_le_mul s.2 p
    refine Nat.or_lt_two_pow (n := 12) a ?_
    split
    · omega
    · decide
theorem ctN_add3 {p a b c : Nat → Bool} : ∀ {n : Nat}, (∀ k, k < n → (if p k then 1 else 0 : Nat) = (if a k then 1 else 0) + (if b k then 1 else 0) + (if c k then 1 else 0)) → ctN p n = ctN a n + ctN b n + ctN c n
  | 0, _ => rfl
  | n + 1, h => by
    have z := ctN_add3 (n := n) (fun k hk => h k (by omega))
    have y := h n (by omega)
    rw [ctN_s, ctN_s, ctN_s, ctN_s, z, y]
    omega
theorem split_b : ∀ (b0 b1 b2 b3 k0 : Bool) (d : Fin 4), 1 ≤ d.val → (b1 = true ↔ b0 = true ∧ 2 = d.val) → (b2 = true ↔ b0 = true ∧ 3 = d.val) → (b3 = true ↔ b0 = true ∧ 1 = d.val) → (if (k0 && b0) = true then 1 else 0 : Nat) = (if (k0 && b1) = true then 1 else 0) + (if (k0 && b2) = true then 1 else 0) + (if (k0 && b3) = true then 1 else 0) := by decide
theorem MO_split {n P i : Nat} (hP : P < 4096) (hi : i < 6) (hup : up6 (ppi i) < n) (hf : fnd P i = 0) : MO n P = MO n (setF P i 1) + MO n (setF P i 2) + MO n (setF P i 3) := by
  unfold MO
  refine ctN_add3 (fun v _ => ?_)
  have C : ∀ x, 1 ≤ x → x ≤ 3 → (cns (mcode (setF P i x)) (cdN n v 6) = true ↔ cns (mcode P) (cdN n v 6) = true ∧ cmT x = fnd (cdN n v 6) (ppi i)) := fun x x1 x3 => by
    have hx := cmT_lt (x := x)
    have hx0 : cmT x ≠ 0 := fun z => by have := cmT_inj (x := x) (y := 0) (by omega) (by omega) z; omega
    rw [cns_iff, cns_iff, mcode_set hP hi x3]
    constructor
    · intro h
      refine ⟨fun j hj => ?_, ?_⟩
      · have := h j hj
        rw [fnd_set mcode_lt (ppi_lt hi) hj (by omega)] at this
        by_cases q : j = ppi i
        · left; rw [fnd_mcode hj, q, ppi_ppi, hf]; rfl
        · rw [if_neg q] at this; exact this
      · have := h (ppi i) (ppi_lt hi)
        rw [fnd_set mcode_lt (ppi_lt hi) (ppi_lt hi) (by omega), if_pos rfl] at this
        rcases this with z | z
        · exact absurd z hx0
        · exact z
    · rintro ⟨h1, h2⟩ j hj
      rw [fnd_set mcode_lt (ppi_lt hi) hj (by omega)]
      by_cases q : j = ppi i
      · rw [if_pos q, q]; exact Or.inr h2
      · rw [if_neg q]; exact h1 j hj
  have c1 := C 1 (by decide) (by decide)
  have c2 := C 2 (by decide) (by decide)
  have c3 := C 3 (by decide) (by decide)
  have o : 1 ≤ fnd (cdN n v 6) (ppi i) ∧ fnd (cdN n v 6) (ppi i) ≤ 3 := by
    rw [fnd_cd (ppi_lt hi) (by omega), if_pos ⟨ppi_lt hi, hup⟩]
    exact shw_rng
  rw [show cmT 1 = 2 from rfl] at c1
  rw [show cmT 2 = 3 from rfl] at c2
  rw [show cmT 3 = 1 from rfl] at c3
  exact split_b _ _ _ _ _ ⟨fnd (cdN n v 6) (ppi i), by omega⟩ o.1 c1 c2 c3
-- where all is known
def upC (k : Nat) : Nat := if k = 0 then 1 else if k < 3 then 2 else 3
def loC (k : Nat) : Nat := if k = 0 then 0 else if k < 3 then k - 1 else k - 3
def hcN (P : Nat) : Nat → Nat → Nat
  | 0, _ => 0
  | k + 1, j => hcN P k j + (if fnd P k = 1 then (if j = upC k then 1 else 0) else if fnd P k = 2 then (if j = loC k then 1 else 0) else 0)
def due (a b : Nat) : Nat := if a = b then 3 else if b ≤ a then 2 else 1
def isO (m P : Nat) : Bool := (List.range m).all (fun k => decide (fnd P k = due (hcN P m (loC k)) (hcN P m (upC k))))
def ordL (n : Nat) : List Nat := match n with
  | 0 => [0]
  | 1 => [0]
  | 2 => [1, 2, 3]
  | 3 => [69, 74, 135, 137, 138, 139, 205, 198, 202, 79, 143, 206, 207]
  | _ => [1365, 1386, 1687, 1705, 1706, 1707, 2525, 2534, 2538, 2655, 2661, 2666, 2719, 2727, 2729, 2730, 2731, 2542, 2783, 2797, 2790, 2794, 2671, 2735, 2798, 2799, 3957, 3930, 3946, 3511, 3481, 3498, 3767, 3739, 3753, 3754, 3755, 2045, 2006, 2026, 1407, 1727, 3069, 3038, 3046, 3050, 2559, 2687, 2751, 3054, 2815, 3962, 4023, 4025, 3994, 4010, 3515, 3771, 4093, 4086, 4058, 4074, 3967, 3519, 3775, 2046, 2047, 3070, 3071, 4026, 4027, 4090, 4031, 4094, 4095]
theorem ordL_e : ∀ n : Fin 5, ordL n.val = ((List.range 256).filter (okV n.val)).map (fun v => cdN n.val v 6) := by decide +kernel
theorem ctN_list {ok q : Nat → Bool} {cd : Nat → Nat} : ∀ {K : Nat}, ctN (fun v => ok v && q (cd v)) K = (((List.range K).filter ok).map cd).countP q
  | 0 => rfl
  | K + 1 => by
    rw [ctN_s, ctN_list (K := K), List.range_succ, List.filter_append, List.map_append, List.countP_append]
    congr 1
    cases h : ok K <;> cases h2 : q (cd K) <;> simp [h, h2]
theorem kn_all : (List.range 5).all (fun n => (List.range (4 ^ (n * (n - 1) / 2))).all (fun P => (List.range (n * (n - 1) / 2)).any (fun i => fnd P i == 0) || ((ordL n).countP (cns (mcode P)) == if isO (n * (n - 1) / 2) P then 1 else 0))) = true := by decide +kernel
theorem MO_known {n P : Nat} (hn : n ≤ 4) (hP : P < 4 ^ (n * (n - 1) / 2)) (hk : ∀ i, i < n * (n - 1) / 2 → ¬ fnd P i = 0) : MO n P = if isO (n * (n - 1) / 2) P then 1 else 0 := by
  unfold MO
  rw [ctN_list, ← ordL_e ⟨n, by omega⟩]
  have := List.all_eq_true.mp (List.all_eq_true.mp kn_all n (List.mem_range.mpr (by omega))) P (List.mem_range.mpr hP)
  rw [Bool.or_eq_true] at this
  rcases this with z | z
  · obtain ⟨i, hi, he⟩ := List.any_eq_true.mp z
    exact absurd (eq_of_beq he) (hk i (List.mem_range.mp hi))
  · exact eq_of_beq z
-- how many are not known
def uu (m P i : Nat) : Nat := if i < m ∧ fnd P i = 0 then 1 else 0
def cntU (m P : Nat) : Nat := uu m P 0 + uu m P 1 + uu m P 2 + uu m P 3 + uu m P 4 + uu m P 5
theorem uu_set {m P i j v : Nat} (hP : P < 4096) (hi : i < 6) (hj : j < 6) (hv' : 1 ≤ v ∧ v ≤ 3) : uu m (setF P i v) j = if j = i then 0 else uu m P j := by
  unfold uu
  rw [fnd_set hP hi hj hv'.2]
  by_cases q : j = i
  · rw [if_pos q, if_pos q, if_neg (by omega)]
  · rw [if_neg q, if_neg q]
theorem cntU_set {m P i v : Nat} (hP : P < 4096) (hi : i < 6) (hu : unkI m P i) (hv' : 1 ≤ v ∧ v ≤ 3) : cntU m (setF P i v) + 1 = cntU m P := by
  have e : uu m P i = 1 := by unfold uu; rw [if_pos ⟨hu.1, hu.2⟩]
  unfold cntU
  rw [uu_set hP hi (by decide) hv', uu_set hP hi (by decide) hv', uu_set hP hi (by decide) hv', uu_set hP hi (by decide) hv', uu_set hP hi (by decide) hv', uu_set hP hi (by decide) hv']
  rcases (show i = 0 ∨ i = 1 ∨ i = 2 ∨ i = 3 ∨ i = 4 ∨ i = 5 by omega) with rfl | rfl | rfl | rfl | rfl | rfl <;> simp [e] <;> omega
theorem uu_le {m P i : Nat} : uu m P i ≤ 1 := by unfold uu; split <;> omega
theorem cntU_le {m P : Nat} : cntU m P ≤ 6 := by
  have h0 := uu_le (m := m) (P := P) (i := 0)
  have h1 := uu_le (m := m) (P := P) (i := 1)
  have h2 := uu_le (m := m) (P := P) (i := 2)
  have h3 := uu_le (m := m) (P := P) (i := 3)
  have h4 := uu_le (m := m) (P := P) (i := 4)
  have h5 := uu_le (m := m) (P := P) (i := 5)
  unfold cntU
  omega
theorem MO_le {n P : Nat} : MO n P ≤ 256 := ctN_le _ _
/-- two tables of the worst are one -/
theorem WR.uniq {n : Int} {g g' : Nat → Int} (hn : 0 ≤ n ∧ n ≤ 4) (h : ∀ P, P < 4 ^ pcn n → WR n.toNat P g) (h' : ∀ P, P < 4 ^ pcn n → WR n.toNat P g') : ∀ P, P < 4 ^ pcn n → g P = g' P := by
  have l6 := pcn_le hn
  have l4 := pow_pcn hn
  have main : ∀ d P, P < 4 ^ pcn n → 4 ^ pcn n - P ≤ d → g P = g' P := by
    intro d
    induction d with
    | zero => intro P hP hd; omega
    | succ d ih =>
      intro P hP hd
      have a := h P hP
      have b := h' P hP
      by_cases q : MO n.toNat P ≤ 1
      · rw [a.1 q, b.1 q]
      · obtain ⟨⟨i, i1, i2⟩, a2⟩ := a.2 (by omega)
        obtain ⟨⟨j, j1, j2⟩, b2⟩ := b.2 (by omega)
        have ch : ∀ i, unkI (pcn n) P i → mxW g P i = mxW g' P i := fun i hu => by
          have s := fun v (hv' : 1 ≤ v ∧ v ≤ 3) => ih (setF P i v) (setF_lt hn hP hu.1 hv'.2) (by have := setF_gt (v := v) hu.2 hv'.1; have := setF_lt (v := v) hn hP hu.1 hv'.2; omega)
          unfold mxW
          rw [s 1 (by omega), s 2 (by omega), s 3 (by omega)]
        have y1 := a2 j j1
        have y2 := b2 i i1
        rw [ch j j1] at y1
        rw [ch i i1] at i2
        omega
  exact fun P hP => main (4 ^ pcn n - P) P hP (Nat.le_refl _)
