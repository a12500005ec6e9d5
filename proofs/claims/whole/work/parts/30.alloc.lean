def KA (Γ : Gm) (U : State) : Prop := KK Γ U ∧ va_AO RX4 U
def okT (t : FieldType) : Bool := match t with
  | .byte => false
  | .char => false
  | .short => false
  | .float => false
  | .double => false
  | _ => true
theorem okT_all : ∀ ci, ci < 10 → ∀ j, j < nf ci → okT (tyOf ci j) = true := by decide +kernel
theorem okT_dv {Γ : Gm} {t : FieldType} (h : okT t = true) : defaultValue t = fval Γ t 0 none := by
  cases t <;> first | rfl | cases h
theorem RA_find {U : State} {cA : ClassId} {ty : FieldType} (h : va_RA U cA ty) (hpr : ∀ C, ty ≠ .object C) : U.vm.findClass ("[" ++ ty.toString) = some cA := by
  cases ty <;> first | exact absurd rfl (hpr _) | exact h
section ALLOC
variable {Γ : Gm} {p : Program} {l : Launch} {e : Env} {R : Room} {s : State} {m : MethodId} {args : Array Value} {below : List Frame} {meth : Method} {c : Code} {own : String} {cc : ByteArray} {nL : Nat} {rt : Option FieldType} {n0 : Nat} {Q : State → Prop} {pc : Nat} {L : List (Option aV)} {st : List aV} {n : Nat} {g : aG} {h : aH}
theorem W_size {H : Heap} {locs : List Loc} {G : JFrame} (hsz : s.heap.size = Γ.2.2.1 + n0) (hn : n0 ≤ n) (hP : HR Γ n g h H) (hS : va_S (AA Γ) s.heap H locs) (k : H.size = Γ.2.2.1 + n → W p l e R s m args below meth c H locs (n - n0) (sl n - sl n0) Q G) : W p l e R s m args below meth c H locs (n - n0) (sl n - sl n0) Q G := by
  intro T hT X
  refine k ?_ T hT X
  have h1 := X.same.2.2.1
  have h2 : (T.setVm s.vm).heap = H := hT
  rw [h2] at h1
  have h3 : Γ.2.2.1 + n ≤ H.size := by
    by_cases hq : n = n0
    · have := hS.1
      omega
    · have := ((hP.2 (n - 1) _ (aw_at (by omega))).lt : Γ.2.2.1 + (n - 1) < H.size)
      omega
  omega
theorem sl_succ (k : Nat) : sl (k + 1) = sl k + (if (kd k).1 < 10 then nf (kd k).1 else (kd k).2) := by
  unfold sl
  rw [List.range_succ, List.map_append, List.sum_append]
  simp
theorem sl_mono {i j : Nat} (h : i ≤ j) : sl i ≤ sl j := by
  induction j with
  | zero => rw [Nat.le_zero.mp h]; exact Nat.le_refl _
  | succ j ih =>
    by_cases hq : i = j + 1
    · rw [hq]; exact Nat.le_refl _
    · have := ih (by omega)
      rw [sl_succ]
      omega
theorem aw_succ : aw Γ (n + 1) g h = aw Γ n g h ++ [(Γ.2.2.1 + n, cw Γ g h n)] := by
  unfold aw
  rw [List.range_succ, List.map_append]
  rfl
/-- a new cell: whatever is new is all 0 and null -/
theorem ok_born {G : Heap → JFrame} {F : Nat} (hsz : s.heap.size = Γ.2.2.1 + n0) (hn : n0 ≤ n) (hb : Γ.2.2.1 ≤ s.heap.size) (hn9 : n < 1000) {H H1 : Heap} {locs : List Loc} (hH : HR Γ n g h H) (hS : va_S (AA Γ) s.heap H locs) (hHs : H.size = Γ.2.2.1 + n) (z1 : H1.size = Γ.2.2.1 + n + 1) (o1 : ∀ q, q < Γ.2.2.1 + n → H1[q]? = H[q]?) (hat : va_at Γ.1 vwCl (Γ.2.2.1 + n, cw Γ g h n) H1) : HR Γ (n + 1) g h H1 ∧ va_S (AA Γ) s.heap H1 locs := by
  refine ⟨⟨by omega, ?_⟩, ⟨by have := hS.1; omega, fun x h1 h2 => (o1 x (by have := hS.1; omega)).trans (hS.2.1 x h1 h2), hS.2.2⟩⟩
  rw [aw_succ]
  refine va_P.app (hH.2.kept (fun k x hx => o1 x.1 ?_)) (fun k x hx => ?_)
  · have := (hH.2 k x hx).lt
    omega
  · have hz : k < 1 := (List.getElem?_eq_some_iff.mp hx).1
    rw [show k = 0 by omega] at hx
    cases hx
    exact hat
theorem ok_new (a : Ac Γ p s m args meth c own cc nL rt) {idx ci : Nat} (d : decode cc pc = .ok (.new idx, 3)) (hc : kd n = (ci, 0)) (hci : ci < 10) (hl : Cond.classLink own idx (cC ci) ∈ gtb) (hi : Cond.instantiable (cC ci) (nf ci) ∈ gtb) (hini : Cond.initialized (cC ci) ∈ gtb) (hsz : s.heap.size = Γ.2.2.1 + n0) (hn : n0 ≤ n) (hn9 : n < 1000) (hz : ∀ i, h n i = 0) (hg : ∀ i, g n i = none) (hcs : n + 1 - n0 ≤ R.cells ∧ sl (n + 1) - sl n0 ≤ R.slots)
    (kk : OK Γ p l e R s m args below meth c n0 Q (pc + 3) L (vR n :: st) (n + 1) g h) : OK Γ p l e R s m args below meth c n0 Q pc L st n g h := by
  intro H locs ls hH hS hL
  refine W_size hsz hn hH hS (fun hHs => ?_)
  have cf := cf_all hci
  have hts := a.2.2.2.2.2.2.1
  have hKn := a.2.2.2.2.2.2.2.1.1 ci _ cf.1
  have hs1 : sl (n + 1) = sl n + nf ci := by rw [sl_succ, hc, if_pos hci]
  have hm := sl_mono hn
  refine W.newcK a.1 a.2.1 a.2.2.2.2.2.1 (hts _ hl) (hts _ hi) (hts _ hini) rfl d (by omega) (by omega) hKn.2.1 hHs fun H1 kC hkC e1 z1 o1 => ?_
  obtain ⟨q1, q2⟩ := ok_born (G := fun _ => F0 m pc ls []) (F := 0) hsz hn (by omega) hn9 hH hS hHs z1 o1 (by
    rw [cw_obj (by rw [hc]) hci]
    refine ⟨_, cf.1, (u_born (tyOf ci) hts cf.2.1 hKn hkC e1 cf.2.2.1).to (fun j hj => ?_)⟩
    show defaultValue (tyOf ci j) = vp_V _ j
    unfold vp_V
    rw [List.getD_eq_getElem?_getD, List.getElem?_map, List.getElem?_range hj]
    show _ = fval Γ (tyOf ci j) (h n (j : Int)) (g n (j : Int))
    rw [hz, hg]
    exact okT_dv (okT_all ci hci j hj))
  have k1 := kk H1 locs ls q1 q2 hL
  rw [show n + 1 - n0 = n - n0 + 1 by omega, show sl (n + 1) - sl n0 = sl n - sl n0 + nf ci by omega] at k1
  simp only [List.map_cons, enc_R (Γ := Γ) hn9] at k1
  exact k1
theorem ok_newarr (a : Ac Γ p s m args meth c own cc nL rt) {at_ : ArrayType} {t len : Nat} (d : decode cc pc = .ok (.newarray at_, 2)) (hty : (tysG Γ)[t]? = some (Γ.2.1 t, newarray.typeOf at_)) (hpr : ∀ C, newarray.typeOf at_ ≠ .object C) (hdv : defaultValue (newarray.typeOf at_) = .int 0) (hb : len * componentBytes (newarray.typeOf at_) ≤ 536870912) (hc : kd n = (10 + t, len)) (ht : t < 4) (hw : Cond.arrayClass (newarray.typeOf at_) ∈ gtb) (hlen : len < 2147483648) (hsz : s.heap.size = Γ.2.2.1 + n0) (hn : n0 ≤ n) (hn9 : n < 1000) (hz : ∀ i, h n i = 0) (hcs : n + 1 - n0 ≤ R.cells ∧ sl (n + 1) - sl n0 ≤ R.slots)
    (kk : OK Γ p l e R s m args below meth c n0 Q (pc + 2) L (vR n :: st) (n + 1) g h) : OK Γ p l e R s m args below meth c n0 Q pc L (vI (len : Int) :: st) n g h := by
  intro H locs ls hH hS hL
  refine W_size hsz hn hH hS (fun hHs => ?_)
  have hts := a.2.2.2.2.2.2.1
  have hs1 : sl (n + 1) = sl n + len := by rw [sl_succ, hc, if_neg (by show ¬ 10 + t < 10; omega)]
  have hm := sl_mono hn
  have hcl : (Int32.ofInt (len : Int)).toNatClampNeg = len := by rw [i32_cl (by omega) (by omega)]; omega
  refine va_newaK (N := len) a.1 a.2.1 (hts _ hw) (g := F0 m pc ls ((vI (len : Int) :: st).map (enc Γ))) rfl d rfl (by rw [i32_0, i32_lt ⟨by omega, by omega⟩ inR0]; omega) hcl hb (by omega) (by omega) hHs fun H1 cA e1 z1 o1 hAr hNm => ?_
  have hcA : cA = Γ.2.1 t := by
    have h3 := RA_find (a.2.2.2.2.2.2.2.1.2 t _ hty).2 hpr
    exact Option.some.inj (hNm.symm.trans h3)
  subst hcA
  obtain ⟨q1, q2⟩ := ok_born (G := fun _ => F0 m pc ls []) (F := 0) hsz hn (by omega) hn9 hH hS hHs z1 o1 (by
    rw [cw_arr hc ht]
    have ef : (fun j : Nat => Value.int (Int32.ofInt (h n (j : Int)))) = fun _ => .int 0 := by
      funext j
      rw [hz]
      rfl
    show H1[Γ.2.2.1 + n]? = some (arrV (Γ.2.1 t) len (fun j : Nat => Value.int (Int32.ofInt (h n (j : Int)))))
    rw [e1, hdv, ef])
  have k1 := kk H1 locs ls q1 q2 hL
  rw [show n + 1 - n0 = n - n0 + 1 by omega, show sl (n + 1) - sl n0 = sl n - sl n0 + len by omega] at k1
  simp only [List.map_cons, enc_R (Γ := Γ) hn9] at k1
  exact k1
theorem ok_anew (a : Ac Γ p s m args meth c own cc nL rt) {idx len : Nat} (hao : va_AO RX4 s) (d : decode cc pc = .ok (.anewarray idx, 3)) (hl : Cond.classLink own idx RX4 ∈ gtb) (hc : kd n = (14, len)) (hlen : len < 100000) (hsz : s.heap.size = Γ.2.2.1 + n0) (hn : n0 ≤ n) (hn9 : n < 1000) (hg : ∀ i, g n i = none) (hcs : n + 1 - n0 ≤ R.cells ∧ sl (n + 1) - sl n0 ≤ R.slots)
    (kk : OK Γ p l e R s m args below meth c n0 Q (pc + 3) L (vR n :: st) (n + 1) g h) : OK Γ p l e R s m args below meth c n0 Q pc L (vI (len : Int) :: st) n g h := by
  intro H locs ls hH hS hL
  refine W_size hsz hn hH hS (fun hHs => ?_)
  have hts := a.2.2.2.2.2.2.1
  have hs1 : sl (n + 1) = sl n + len := by rw [sl_succ, hc, if_neg (by show ¬ (14 : Nat) < 10; decide)]
  have hm := sl_mono hn
  have hcl : (Int32.ofInt (len : Int)).toNatClampNeg = len := by rw [i32_cl (by omega) (by omega)]; omega
  refine W.anew a.1 a.2.1 a.2.2.2.2.2.1 (hts _ hl) (va_AO.use hao) (g := F0 m pc ls ((vI (len : Int) :: st).map (enc Γ))) rfl d rfl (by rw [i32_0, i32_lt ⟨by omega, by omega⟩ inR0]; omega) (by rw [hcl]; omega) (by omega) (by rw [hcl]; omega) fun cA kA comp f1 f2 f3 f4 => ?_
  have hcA : cA = Γ.2.1 4 := by
    obtain ⟨kA2, comp2, g1, g2, g3, g4⟩ := (a.2.2.2.2.2.2.2.1.2 4 _ (rfl : (tysG Γ)[4]? = some (Γ.2.1 4, .object RX4))).2
    exact Option.some.inj (f1.symm.trans g4)
  subst hcA
  rw [hcl]
  generalize hH1 : H.push ({ cls := Γ.2.1 4, slots := Array.replicate len .null, vm := .none } : Cell) = H1
  have z1 : H1.size = Γ.2.2.1 + n + 1 := by rw [← hH1, Array.size_push, hHs]
  have e1 : H1[Γ.2.2.1 + n]? = some (arrV (Γ.2.1 4) len (fun _ => .null)) := by rw [← hH1, ← hHs, Array.getElem?_push_size, ← arrV_new]
  have o1 : ∀ q : Nat, q < Γ.2.2.1 + n → H1[q]? = H[q]? := fun q hq => by rw [← hH1, Array.getElem?_push, if_neg (by omega)]
  obtain ⟨q1, q2⟩ := ok_born (G := fun _ => F0 m pc ls []) (F := 0) hsz hn (by omega) hn9 hH hS hHs z1 o1 (by
    rw [cw_ref hc]
    have ef : (fun j : Nat => va_rf ((g n (j : Int)).map (ad Γ))) = fun _ => .null := by
      funext j
      rw [hg]
      rfl
    show H1[Γ.2.2.1 + n]? = some (arrV (Γ.2.1 4) len (fun j : Nat => va_rf ((g n (j : Int)).map (ad Γ))))
    rw [e1, ef])
  have k1 := kk H1 locs ls q1 q2 hL
  rw [show n + 1 - n0 = n - n0 + 1 by omega, show sl (n + 1) - sl n0 = sl n - sl n0 + len by omega] at k1
  simp only [List.map_cons, enc_R (Γ := Γ) hn9] at k1
  rw [hHs]
  exact k1
theorem cw_othg {k : Nat} {i : Int} {x : Option Nat} : ∀ k', k' ≠ k → cw Γ g h k' = cw Γ (upg g k i x) h k' := by
  intro k' hk
  have e : ∀ j, upg g k i x k' j = g k' j := fun j => by simp [upg, hk]
  unfold cw
  simp only [e]
/-- a final reference field in its own constructor -/
theorem ok_putR (a : Ac Γ p s m args meth c own cc nL rt) {idx ci j k r : Nat} (jI : Int) (hjI : (j : Int) = jI) (hin : meth.name = "<init>") (d : decode cc pc = .ok (.putfield idx, 3)) (f : Lf own idx ci j) (hlk : Cond.fieldLink own idx (cC ci) (cT ci j).2.1 (cT ci j).2.2.1 ∈ gtb) (hfin : (cT ci j).2.2.2 = true) (hown : cC ci = own) (hk : k < n) (hr : r < n) (hc : (kd k).1 = ci) (ht : isRefT (tyOf ci j) = true) (hft : ∀ q : Nat, narrow (tyOf ci j) (.ref q) = .ref q ∧ fits (tyOf ci j) (.ref q) = true) (kk : OK Γ p l e R s m args below meth c n0 Q (pc + 3) L st n (upg g k jI (some r)) h) : OK Γ p l e R s m args below meth c n0 Q pc L (vR r :: vR k :: st) n g h := by
  intro H locs ls hH hS hL
  subst hjI
  obtain ⟨hn, hP⟩ := hH
  have he := aw_at (Γ := Γ) (g := g) (h := h) hk
  rw [cw_obj hc f.1] at he
  have cf := cf_all f.1
  have hfv : ∀ x, fval Γ (tyOf ci j) x (some r) = .ref (ad Γ r) := by
    intro x
    generalize tyOf ci j = t at ht
    cases t <;> first | rfl | cases ht
  have hset : (aw Γ n g h).set k (Γ.2.2.1 + k, .inr (ci, ((List.range (nf ci)).map (fun j => fval Γ (tyOf ci j) (h k (j : Int)) (g k (j : Int)))).set j (.ref (ad Γ r)))) = aw Γ n (upg g k (j : Int) (some r)) h := by
    refine aw_set hk ?_ cw_othg
    rw [cw_obj hc f.1]
    congr 2
    refine map_set ?_ ?_
    · simp only [upg, and_self, if_true]; exact hfv _
    · intro i hi
      have : ¬ ((k = k) ∧ ((i : Int) = (j : Int))) := fun q => hi (by omega)
      show fval Γ (tyOf ci i) (h k (i : Int)) (if k = k ∧ (i : Int) = (j : Int) then some r else g k (i : Int)) = _
      rw [if_neg this]
  simp only [List.map_cons, enc_R (Γ := Γ) (show k < 1000 by omega)]
  refine va_putF (D := Γ.1) (ci := ci) (C := cC ci) (T := cT ci) (N := nf ci) (v := .ref (ad Γ r)) a.1 a.2.1 a.2.2.2.2.2.2.1 cf.2.1 (tyOf ci) cf.2.2.1 cf.2.2.2.1 a.2.2.2.2.2.1 a.2.2.2.2.2.2.2.1 hP aw_D hS k he cf.1 j f.2.1 (a.2.2.2.2.2.2.1 _ hlk) (fun _ h9 => by rw [cf.2.2.2.2 j f.2.1] at h9; exact h9) hfin hin ((cf.2.2.2.2 j f.2.1).trans hown) (cf.2.2.1 j f.2.1) (hft _).1 (hft _).2 (by simp; exact f.2.1) d (fun H1 locs1 q1 _ q3 => ?_)
  exact kk H1 locs1 ls ⟨hn, by rw [← hset]; exact q1⟩ q3 hL
theorem ok_aast (a : Ac Γ p s m args meth c own cc nL rt) {i : Int} {k len r : Nat} (d : decode cc pc = .ok (.aastore, 1)) (hk : k < n) (hc : kd k = (14, len)) (hlen : len < 2147483648) (hi : 0 ≤ i ∧ i < len) (hr : r < n) (hcr : (kd r).1 = 4) (kk : OK Γ p l e R s m args below meth c n0 Q (pc + 1) L st n (upg g k i (some r)) h) : OK Γ p l e R s m args below meth c n0 Q pc L (vR r :: vI i :: vR k :: st) n g h := by
  intro H locs ls hH hS hL
  obtain ⟨hn, hP⟩ := hH
  have he := aw_at (Γ := Γ) (g := g) (h := h) hk
  rw [cw_ref hc] at he
  have her := aw_at (Γ := Γ) (g := g) (h := h) hr
  rw [cw_obj hcr (by decide)] at her
  have hin := i32_in hi.1 hi.2 hlen
  have hcl := i32_cl hi.1 (by omega : i < 2147483648)
  have hf : va_up (fun j : Nat => (g k (j : Int)).map (ad Γ)) (Int32.ofInt i).toNatClampNeg (some (Γ.2.2.1 + r)) = fun j : Nat => (upg g k i (some r) k (j : Int)).map (ad Γ) := by
    funext j
    rw [hcl]
    by_cases hj : j = i.toNat
    · subst hj
      have e2 : ((i.toNat : Nat) : Int) = i := Int.toNat_of_nonneg hi.1
      simp [va_up, upg, e2, ad_lt (Γ := Γ) (show r < 1000 by omega)]
    · have : ¬ (j : Int) = i := by omega
      simp [va_up, upg, hj, this]
  have hset : (aw Γ n g h).set k (Γ.2.2.1 + k, .inl (Γ.2.1 4, len, .inr (.inr (.inr (.inr (va_up (fun j : Nat => (g k (j : Int)).map (ad Γ)) (Int32.ofInt i).toNatClampNeg (some (Γ.2.2.1 + r)))))))) = aw Γ n (upg g k i (some r)) h := by
    refine aw_set hk ?_ cw_othg
    rw [cw_ref hc, hf]
  simp only [List.map_cons, enc_R (Γ := Γ) (show k < 1000 by omega), enc_R (Γ := Γ) (show r < 1000 by omega)]
  refine va_astq (D := Γ.1) a.1 a.2.1 a.2.2.2.2.2.2.2.1 hP aw_D hS k 4 r 4 he (r := (RX4, TX4, 3)) rfl her rfl hin d (fun H1 locs1 q1 _ q3 => ?_)
  exact kk H1 locs1 ls ⟨hn, by rw [← hset]; exact q1⟩ q3 hL
def LkO (own : String) (idx : Nat) : Prop := Cond.methodLink own idx Lib.objectInit ∈ gtb ∧ Cond.instanceMethod Lib.objectInit ∈ gtb ∧ Cond.code Lib.objectInit ⟨#[0xb1]⟩ 1 none ∈ gtb
theorem ok_objInit (a : Ac Γ p s m args meth c own cc nL rt) {idx k : Nat} (d : decode cc pc = .ok (.invokespecial idx, 3)) (lk : LkO own idx) (hfr : 1 ≤ R.frames) (hlo : (st.map catA).sum + 12 ≤ R.locals) (kk : OK Γ p l e R s m args below meth c n0 Q (pc + 3) L st n g h) : OK Γ p l e R s m args below meth c n0 Q pc L (vR k :: st) n g h := by
  intro H locs ls hH hS hL
  have hts := a.2.2.2.2.2.2.1
  refine W.objInit (g := F0 m pc ls ((vR k :: st).map (enc Γ))) a.1 a.2.1 a.2.2.2.2.2.1 (hts _ lk.1) (hts _ lk.2.1) (hts _ lk.2.2) rfl (by show ls.size = _; exact hL.1) (a := ad Γ k) (rest := st.map (enc Γ)) rfl d hfr (by show 2 * 0 + _ + 12 ≤ _; rw [cat_sum]; omega) (kk H locs ls hH hS hL)
-- CONSTRUCTORS: contracts with new cells
def ClA (Γ : Gm) (l : Launch) (y : MI) (as : List aV) (n nE : Nat) (g : aG) (h : aH) (Q : Option aV → aG → aH → Prop) : Prop :=
  Met l y.1 (wsy y.1 y.2.1 y.2.2.1 y.2.2.2.1) (rmd y.2.2.2.2 n nE) (va_Pc (as.map (enc Γ)) (fun U => HR Γ n g h U.heap ∧ KA Γ U ∧ U.heap.size = Γ.2.2.1 + n)) (QQ Γ nE Q) (nE - n) (sl nE - sl n) (AA Γ)
theorem ClA.of {y : MethodName} {cc : ByteArray} {nL d nE : Nat} {rt : Option FieldType} {as : List aV} {Q : Option aV → aG → aH → Prop} (hy : plainName y.cls = true) (L0 : List (Option aV)) (hL0 : entL as ++ List.replicate (nL - (entL as).length) none = L0) (hlen : (entL as).length ≤ nL)
    (body : ∀ (p : Program) (e : Env) (s : State) (m : MethodId) (args : Array Value) (below : List Frame) (meth : Method) (c : Code), Ac Γ p s m args meth c y.cls cc nL rt → va_AO RX4 s → s.heap.size = Γ.2.2.1 + n → meth.name = y.name → OK Γ p l e (rmd d n nE) s m args below meth c n (MQ below (QQ Γ nE Q) args s (nE - n) (sl nE - sl n) (AA Γ)) 0 L0 [] n g h) : ClA Γ l (y, cc, nL, rt, d) as n nE g h Q := by
  refine Met.ofW (cc := cc) (maxL := nL) (ret := rt) hy rfl ?_
  intro p e s m args below meth c s₁ B hml hv
  obtain ⟨rfl, hH, ⟨hK, hao⟩, hsz⟩ := hv
  have hts := atoms_spec (ws := wsy y cc nL rt) B.pre
  have a : Ac Γ p s m (as.map (enc Γ)).toArray meth c y.cls cc nL rt := ⟨B.exec, B.bytes, hml, B.returns, B.notSynchronized, findClass_of_methodNamed B.named, fun w hw => hts w (List.mem_cons_of_mem _ hw), hK⟩
  have hl := lv_entry (as.map (enc Γ)) (n := nL) (by rw [lg_len]; exact hlen)
  rw [lg_entry_eq]
  generalize (lg_sl (as.map (enc Γ)) ++ List.replicate (nL - (lg_sl (as.map (enc Γ))).length) Slot.unset).toArray = ls at hl ⊢
  have hLR : LR Γ c.maxLocals L0 ls := by
    rw [hml]
    refine ⟨hl.1, hl.2.1, by rw [← hL0]; simp; omega, fun i v hi => ?_⟩
    rw [← hL0] at hi
    by_cases hlt : i < (entL as).length
    · rw [List.getElem?_append_left hlt] at hi
      have := entL_mem (Γ := Γ) as 0 i v hi
      rw [Nat.zero_add] at this
      exact hl.2.2 _ this
    · rw [List.getElem?_append_right (by omega)] at hi
      have := List.mem_of_getElem? hi
      rw [List.mem_replicate] at this
      cases this.2
  have k := body p e s m _ below meth c a hao hsz (name_of_methodNamed B.named B.method).1 s.heap [] ls hH va_S.rf hLR
  rw [Nat.sub_self, Nat.sub_self] at k
  exact k
variable {Q' : Option aV → aG → aH → Prop}
def LkI (own : String) (idx : Nat) (y : MI) : Prop := LkB y 0 ∧ LkM own idx y ∧ Cond.instanceMethod y.1 ∈ gtb ∧ y.1.name = "<init>"
theorem ok_callI (a : Ac Γ p s m args meth c own cc nL rt) {y : MI} {idx k nE : Nat} (M : ClA Γ l y [vR k] n nE g h Q') (hao : va_AO RX4 s) (hrt : y.2.2.2.1 = none) (d : decode cc pc = .ok (.invokespecial idx, 3)) (lk : LkI own idx y) (hR : y.2.2.2.2 + 1 ≤ R.frames ∧ 8 + (y.2.2.1 + 11) + 40 * y.2.2.2.2 ≤ R.locals) (hsz : s.heap.size = Γ.2.2.1 + n0) (hn : n0 ≤ n) (hE : n ≤ nE) (hcs : nE - n0 ≤ R.cells ∧ sl nE - sl n0 ≤ R.slots) (hst : (st.map catA).sum ≤ 8)
    (kk : ∀ v g' h', Q' v g' h' → OK Γ p l e R s m args below meth c n0 Q (pc + 3) L (v.toList ++ st) nE g' h') : OK Γ p l e R s m args below meth c n0 Q pc L (vR k :: st) n g h := by
  obtain ⟨y1, y2, y3, y4, y5⟩ := y
  subst hrt
  obtain ⟨lb, lm, li, hin⟩ := lk
  have m1 := sl_mono hn
  have m2 := sl_mono hE
  intro H locs ls hH hS hL
  refine W_size hsz hn hH hS (fun hHs => ?_)
  have hts := a.2.2.2.2.2.2.1
  have hpre : PreS s H (va_Pc ([vR k].map (enc Γ)) (fun U => HR Γ n g h U.heap ∧ KA Γ U ∧ U.heap.size = Γ.2.2.1 + n)) (.ref (ad Γ k) :: []) := ⟨fun _ _ _ _ q => ⟨q.1, q.2.1, ⟨q.2.2.1.1.blind, va_AO.moved (Vm.Alike.refl _) q.2.2.1.2⟩, q.2.2.2⟩, fun U hU hW => ⟨rfl, by rw [hU]; exact hH, ⟨a.2.2.2.2.2.2.2.go hS hU hW, va_AO.moved hW.alike hao⟩, by rw [hU]; exact hHs⟩⟩
  have hf : (n - n0) + (nE - n) ≤ R.cells ∧ (sl n - sl n0) + (sl nE - sl n) ≤ R.slots := ⟨by omega, by omega⟩
  have hw8 : 2 * (F0 m pc ls ((vR k :: st).map (enc Γ))).monitorRoom + ((st.map (enc Γ)).map fun v => v.category).sum ≤ 8 := lv_room (by rw [cat_sum]; exact hst)
  have hr : va_Run p l e R s m args below meth c H locs (n - n0) (sl n - sl n0) (nE - n) (sl nE - sl n) (F0 m pc ls ((vR k :: st).map (enc Γ))) (st.map (enc Γ)) (QQ Γ nE Q' (Value.ref (ad Γ k) :: []).toArray) (AA Γ) := by
    rcases lm with lm | ⟨host, lm⟩
    · have cb := callB_of (R := R) (s := s) (args := args) (own := own) (index := idx) (rm := rmd y5 n nE) 0 hts (good_wsy lb) rfl rfl rfl (hts _ lb.1) (hts _ lm) lb.2.2 hR
      exact va_runI ⟨a.1, a.2.1, a.2.2.1, a.2.2.2.2.2.1, hts⟩ M ⟨cb, hin, hts _ li⟩ hpre rfl rfl (by rw [← a.2.2.1]; exact hL.1) rfl hw8 d hf
    · have cb := va_cnB (R := R) (s := s) (args := args) (own := own) (index := idx) (host := host) (rm := rmd y5 n nE) 0 hts (good_wsy lb) rfl rfl rfl (a.2.2.2.2.2.2.2.2.1 _ lm rfl) (hts _ lb.1) lb.2.2 hR
      exact va_runIN ⟨a.1, a.2.1, a.2.2.1, a.2.2.2.2.2.1, hts⟩ M ⟨cb, hin, hts _ li⟩ hpre rfl rfl (by rw [← a.2.2.1]; exact hL.1) rfl hw8 d hf
  intro T hT X
  obtain ⟨v, st₀, t, T', L1, h0, X', hL1, e1, e2, ⟨⟨v', g', h', hv, hq, hh⟩, hz, hkp⟩, stp⟩ := hr T hT X
  have hv' : v = v'.map (enc Γ) := by injection hv
  subst hv'
  rw [h0] at hz hkp
  rw [show n - n0 + (nE - n) = nE - n0 by omega, show sl n - sl n0 + (sl nE - sl n) = sl nE - sl n0 by omega] at X'
  obtain ⟨t2, a1, b1⟩ := kk v' g' h' hq T'.heap (locs ++ L1) ls (by rw [e1]; exact hh) ⟨Nat.le_trans hS.1 (by rw [e1]; exact hz), fun q h1 h2 => by rw [e1, hkp q (Nat.lt_of_lt_of_le h1 hS.1) h2]; exact hS.2.1 q h1 h2, fun q hq => by
      rcases List.mem_append.mp hq with h | h
      · exact hS.2.2 q h
      · exact hL1 q h⟩ hL T' rfl X'
  refine ⟨t2, stp t2 ?_, b1⟩
  have e9 : (v'.toList ++ st).map (enc Γ) = (v'.map (enc Γ)).toList ++ st.map (enc Γ) := by
    rw [List.map_append]
    cases v' <;> rfl
  rw [e9] at a1
  exact a1
/-- a call of a method that makes no cell, where cells have been made -/
theorem ok_gV (a : Ac Γ p s m args meth c own cc nL rt) {y : MI} {na idx k ci : Nat} {as : List aV} (M : Cl Γ l y (vR k :: as) n g h Q') (d : decode cc pc = .ok (.invokevirtual idx, 3)) (lk : LkV own idx y na) (hna : as.length = na) (hk : k < n) (hc : (kd k).1 = ci) (hci : ci < 10) (hC : cC ci = y.1.cls) (hR : y.2.2.2.2 + 1 ≤ R.frames ∧ 8 + (y.2.2.1 + 11) + 40 * y.2.2.2.2 ≤ R.locals) (hcs : n - n0 ≤ R.cells ∧ sl n - sl n0 ≤ R.slots) (hst : (st.map catA).sum ≤ 8)
    (kk : ∀ v g' h', Q' v g' h' → OK Γ p l e R s m args below meth c n0 Q (pc + 3) L (v.toList ++ st) n g' h') : OK Γ p l e R s m args below meth c n0 Q pc L (as.reverse ++ vR k :: st) n g h := by
  obtain ⟨lb, lm, li, ls0⟩ := lk
  refine ok_run (q0 := h) (as := (Value.ref (ad Γ k) :: as.map (enc Γ)).toArray) (Nat.sub_self n) (Nat.sub_self (sl n)) (fun H locs ls hH hS hL => ?_) kk
  have hts := a.2.2.2.2.2.2.1
  have hcf := cf_all hci
  have hkn : k < 1000 := Nat.lt_of_lt_of_le hk hH.1
  have he := aw_at (Γ := Γ) (g := g) (h := h) hk
  rw [cw_obj hc hci] at he
  have hrc := va_recv a.2.2.2.2.2.2.2.1 hH.2 hcf.1 he
  rw [← ad_lt (Γ := Γ) hkn] at hrc
  have hpre : PreV s H y.1.cls (ad Γ k) (va_Pc ((vR k :: as).map (enc Γ)) (fun U => HR Γ n g h U.heap ∧ KK Γ U)) (as.map (enc Γ)) := ⟨blind_pc, by rw [← hC]; exact hrc, fun U hU hW => ⟨rfl, by rw [hU]; exact hH, a.2.2.2.2.2.2.2.go hS hU hW⟩⟩
  have hstk : (F0 m pc ls ((as.reverse ++ vR k :: st).map (enc Γ))).stack = (as.map (enc Γ)).reverse ++ .ref (ad Γ k) :: st.map (enc Γ) := by
    show (as.reverse ++ vR k :: st).map (enc Γ) = _
    rw [List.map_append, List.map_reverse]
    rfl
  have hf : (n - n0) + (n - n) ≤ R.cells ∧ (sl n - sl n0) + (sl n - sl n) ≤ R.slots := by simpa using hcs
  have hw8 : 2 * (F0 m pc ls ((as.reverse ++ vR k :: st).map (enc Γ))).monitorRoom + ((st.map (enc Γ)).map fun v => v.category).sum ≤ 8 := lv_room (by rw [cat_sum]; exact hst)
  rcases lm with lm | ⟨host, lm⟩
  · have cb := callB_of (R := R) (s := s) (args := args) (own := own) (index := idx) (rm := rmd y.2.2.2.2 n n) na hts (good_wsy lb) rfl rfl rfl (hts _ lb.1) (hts _ lm) lb.2.2 hR
    exact va_runV ⟨a.1, a.2.1, a.2.2.1, a.2.2.2.2.2.1, hts⟩ M ⟨cb, hts _ li, hts _ ls0⟩ hpre rfl (by rw [List.length_map]; exact hna) (by rw [← a.2.2.1]; exact hL.1) hstk hw8 d hf
  · have cb := va_cnB (R := R) (s := s) (args := args) (own := own) (index := idx) (host := host) (rm := rmd y.2.2.2.2 n n) na hts (good_wsy lb) rfl rfl rfl (a.2.2.2.2.2.2.2.2.1 _ lm rfl) (hts _ lb.1) lb.2.2 hR
    exact va_runVN ⟨a.1, a.2.1, a.2.2.1, a.2.2.2.2.2.1, hts⟩ M ⟨cb, hts _ li, hts _ ls0⟩ hpre rfl (by rw [List.length_map]; exact hna) (by rw [← a.2.2.1]; exact hL.1) hstk hw8 d hf
end ALLOC
