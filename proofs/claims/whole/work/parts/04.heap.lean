theorem ad_lt {Γ : Gm} {k : Nat} (h : k < 1000) : ad Γ k = Γ.2.2.1 + k := by
  unfold ad
  rw [if_neg (by omega), if_neg (by omega)]
theorem enc_R {Γ : Gm} {k : Nat} (h : k < 1000) : enc Γ (vR k) = .ref (Γ.2.2.1 + k) := by
  show Value.ref (ad Γ k) = _
  rw [ad_lt h]
theorem aw_at {Γ : Gm} {n k : Nat} {g : aG} {h : aH} (hk : k < n) : (aw Γ n g h)[k]? = some (Γ.2.2.1 + k, cw Γ g h k) := by simp [aw, hk]
theorem aw_of {Γ : Gm} {n k : Nat} {g : aG} {h : aH} {q : Nat × va_E} (hq : (aw Γ n g h)[k]? = some q) : k < n ∧ q = (Γ.2.2.1 + k, cw Γ g h k) := by
  have hk : k < n := by
    have := (List.getElem?_eq_some_iff.mp hq).1
    simpa [aw] using this
  rw [aw_at hk] at hq
  exact ⟨hk, (Option.some.inj hq).symm⟩
theorem aw_D {Γ : Gm} {n : Nat} {g : aG} {h : aH} : va_D (AA Γ) (aw Γ n g h) := by
  refine ⟨fun i j p q hi hj e => ?_, fun k q hk => ?_⟩
  · have h1 := (aw_of hi).2
    have h2 := (aw_of hj).2
    subst h1
    subst h2
    have : Γ.2.2.1 + i = Γ.2.2.1 + j := e
    omega
  · rw [(aw_of hk).2]
    show Γ.2.2.1 ≤ Γ.2.2.1 + k
    omega
theorem aw_set {Γ : Gm} {n k : Nat} {g g' : aG} {h h' : aH} {x : va_E} (hk : k < n) (hx : x = cw Γ g' h' k) (ho : ∀ k', k' ≠ k → cw Γ g h k' = cw Γ g' h' k') : (aw Γ n g h).set k (Γ.2.2.1 + k, x) = aw Γ n g' h' := by
  apply List.ext_getElem?
  intro i
  by_cases hi : k = i
  · subst hi
    rw [aw_at hk, List.getElem?_set_self (by simp [aw]; exact hk), hx]
  · rw [List.getElem?_set_ne hi]
    by_cases hn : i < n
    · rw [aw_at hn, aw_at hn, ho i (fun q => hi q.symm)]
    · rw [List.getElem?_eq_none (by simp [aw]; omega), List.getElem?_eq_none (by simp [aw]; omega)]
theorem cw_obj {Γ : Gm} {g : aG} {h : aH} {k ci : Nat} (hc : (kd k).1 = ci) (hci : ci < 10) : cw Γ g h k = .inr (ci, (List.range (nf ci)).map (fun j => fval Γ (tyOf ci j) (h k (j : Int)) (g k (j : Int)))) := by
  subst hc
  unfold cw
  rw [if_pos hci]
theorem cw_arr {Γ : Gm} {g : aG} {h : aH} {k t len : Nat} (hc : kd k = (10 + t, len)) (ht : t < 4) : cw Γ g h k = .inl (Γ.2.1 t, len, .inl (fun j => Int32.ofInt (h k (j : Int)))) := by
  unfold cw
  rw [hc, if_neg (by show ¬ 10 + t < 10; omega), if_pos (by show 10 + t < 14; omega)]
  show (Sum.inl (Γ.2.1 (10 + t - 10), len, _) : va_E) = _
  rw [show 10 + t - 10 = t by omega]
theorem cw_ref {Γ : Gm} {g : aG} {h : aH} {k len : Nat} (hc : kd k = (14, len)) : cw Γ g h k = .inl (Γ.2.1 4, len, .inr (.inr (.inr (.inr (fun j => (g k (j : Int)).map (ad Γ)))))) := by
  unfold cw
  rw [hc, if_neg (by show ¬ (14 : Nat) < 10; decide), if_neg (by show ¬ (14 : Nat) < 14; decide)]
theorem cw_oth {Γ : Gm} {g : aG} {h : aH} {k : Nat} {i x : Int} : ∀ k', k' ≠ k → cw Γ g h k' = cw Γ g (up h k i x) k' := by
  intro k' hk
  have e : ∀ j, up h k i x k' j = h k' j := fun j => by simp [up, hk]
  unfold cw
  simp only [e]
theorem map_set {f f' : Nat → Value} {N j : Nat} {y : Value} (h1 : f' j = y) (h2 : ∀ i, i ≠ j → f' i = f i) : ((List.range N).map f).set j y = (List.range N).map f' := by
  apply List.ext_getElem?
  intro i
  by_cases hi : j = i
  · subst hi
    by_cases hj : j < N
    · rw [List.getElem?_set_self (by simpa using hj)]
      simp [hj, h1]
    · rw [List.getElem?_eq_none (by simp; omega), List.getElem?_eq_none (by simp; omega)]
  · rw [List.getElem?_set_ne hi]
    by_cases hn : i < N
    · simp [hn, h2 i (fun q => hi q.symm)]
    · rw [List.getElem?_eq_none (by simp; omega), List.getElem?_eq_none (by simp; omega)]
section HEAP
variable {Γ : Gm} {p : Program} {l : Launch} {e : Env} {R : Room} {s : State} {m : MethodId} {args : Array Value} {below : List Frame} {meth : Method} {c : Code} {own : String} {cc : ByteArray} {nL : Nat} {rt : Option FieldType} {n0 : Nat} {Q : State → Prop} {pc : Nat} {L : List (Option aV)} {st : List aV} {n : Nat} {g : aG} {h : aH}
theorem ok_get (a : Ac Γ p s m args meth c own cc nL rt) {idx ci j k : Nat} {v : aV} (d : decode cc pc = .ok (.getfield idx, 3)) (f : Lf own idx ci j) (hk : k < n) (hc : (kd k).1 = ci) (hv : fval Γ (tyOf ci j) (h k (j : Int)) (g k (j : Int)) = enc Γ v) (kk : OK Γ p l e R s m args below meth c n0 Q (pc + 3) L (v :: st) n g h) : OK Γ p l e R s m args below meth c n0 Q pc L (vR k :: st) n g h := by
  intro H locs ls hH hS hL
  have k1 := kk H locs ls hH hS hL
  obtain ⟨hn, hP⟩ := hH
  have he := aw_at (Γ := Γ) (g := g) (h := h) hk
  rw [cw_obj hc f.1] at he
  have hvv : ((List.range (nf ci)).map (fun j => fval Γ (tyOf ci j) (h k (j : Int)) (g k (j : Int))))[j]? = some (enc Γ v) := by simp [f.2.1, hv]
  have cf := cf_all f.1
  simp only [List.map_cons, enc_R (Γ := Γ) (show k < 1000 by omega)]
  rcases f.2.2 with hf | ⟨host, hf⟩
  · exact va_get (D := Γ.1) (ci := ci) (C := cC ci) (T := cT ci) (N := nf ci) a.1 a.2.1 a.2.2.2.2.2.2.1 cf.2.1 a.2.2.2.2.2.1 a.2.2.2.2.2.2.2.1 hP k he cf.1 j f.2.1 (a.2.2.2.2.2.2.1 _ hf) (fun _ h9 => by rw [cf.2.2.2.2 j f.2.1] at h9; exact h9) hvv d k1
  · exact va_getN (D := Γ.1) (ci := ci) (C := cC ci) (T := cT ci) (N := nf ci) a.1 a.2.1 a.2.2.2.2.2.2.1 cf.2.1 a.2.2.2.2.2.1 a.2.2.2.2.2.2.2.1 hP k he cf.1 j f.2.1 (va_Nw.use (by rfl) (a.2.2.2.2.2.2.2.2.1 _ hf rfl)) (fun _ h9 => by rw [cf.2.2.2.2 j f.2.1] at h9; exact h9) hvv d k1
theorem ok_put (a : Ac Γ p s m args meth c own cc nL rt) {idx ci j k : Nat} {v : aV} {x : Int} (d : decode cc pc = .ok (.putfield idx, 3)) (f : Lf own idx ci j) (hfin : (cT ci j).2.2.2 = false) (hk : k < n) (hc : (kd k).1 = ci) (hv : ∀ r, fval Γ (tyOf ci j) x r = enc Γ v) (hnr : narrow (tyOf ci j) (enc Γ v) = enc Γ v) (hft : fits (tyOf ci j) (enc Γ v) = true) (kk : OK Γ p l e R s m args below meth c n0 Q (pc + 3) L st n g (up h k (j : Int) x)) : OK Γ p l e R s m args below meth c n0 Q pc L (v :: vR k :: st) n g h := by
  intro H locs ls hH hS hL
  obtain ⟨hn, hP⟩ := hH
  have he := aw_at (Γ := Γ) (g := g) (h := h) hk
  rw [cw_obj hc f.1] at he
  have cf := cf_all f.1
  have hset : (aw Γ n g h).set k (Γ.2.2.1 + k, .inr (ci, ((List.range (nf ci)).map (fun j => fval Γ (tyOf ci j) (h k (j : Int)) (g k (j : Int)))).set j (enc Γ v))) = aw Γ n g (up h k (j : Int) x) := by
    refine aw_set hk ?_ cw_oth
    rw [cw_obj hc f.1]
    congr 2
    refine map_set ?_ ?_
    · simp only [up, and_self, if_true]; exact hv _
    · intro i hi
      have : ¬ ((k = k) ∧ ((i : Int) = (j : Int))) := fun q => hi (by omega)
      show fval Γ (tyOf ci i) (if k = k ∧ (i : Int) = (j : Int) then x else h k (i : Int)) (g k (i : Int)) = _
      rw [if_neg this]
  have k1 : ∀ (H1 : Heap) (locs1 : List Loc), va_P Γ.1 vwCl ((aw Γ n g h).set k (Γ.2.2.1 + k, .inr (ci, ((List.range (nf ci)).map (fun j => fval Γ (tyOf ci j) (h k (j : Int)) (g k (j : Int)))).set j (enc Γ v)))) H1 → va_D (AA Γ) ((aw Γ n g h).set k (Γ.2.2.1 + k, .inr (ci, ((List.range (nf ci)).map (fun j => fval Γ (tyOf ci j) (h k (j : Int)) (g k (j : Int)))).set j (enc Γ v)))) → va_S (AA Γ) s.heap H1 locs1 → W p l e R s m args below meth c H1 locs1 (n - n0) (sl n - sl n0) Q (F0 m (pc + 3) ls (st.map (enc Γ))) := fun H1 locs1 q1 _ q3 => kk H1 locs1 ls ⟨hn, by rw [← hset]; exact q1⟩ q3 hL
  simp only [List.map_cons, enc_R (Γ := Γ) (show k < 1000 by omega)]
  rcases f.2.2 with hf | ⟨host, hf⟩
  · exact va_put (D := Γ.1) (ci := ci) (C := cC ci) (T := cT ci) (N := nf ci) a.1 a.2.1 a.2.2.2.2.2.2.1 cf.2.1 (tyOf ci) cf.2.2.1 cf.2.2.2.1 a.2.2.2.2.2.1 a.2.2.2.2.2.2.2.1 hP aw_D hS k he cf.1 j f.2.1 (a.2.2.2.2.2.2.1 _ hf) (fun _ h9 => by rw [cf.2.2.2.2 j f.2.1] at h9; exact h9) hfin (cf.2.2.1 j f.2.1) hnr hft (by simp; exact f.2.1) d k1
  · exact va_putN (D := Γ.1) (ci := ci) (C := cC ci) (T := cT ci) (N := nf ci) a.1 a.2.1 a.2.2.2.2.2.2.1 cf.2.1 (tyOf ci) cf.2.2.1 cf.2.2.2.1 a.2.2.2.2.2.1 a.2.2.2.2.2.2.2.1 hP aw_D hS k he cf.1 j f.2.1 (va_Nw.use (by rfl) (a.2.2.2.2.2.2.2.2.1 _ hf rfl)) (fun _ h9 => by rw [cf.2.2.2.2 j f.2.1] at h9; exact h9) hfin (cf.2.2.1 j f.2.1) hnr hft (by simp; exact f.2.1) d k1
theorem ok_putI (a : Ac Γ p s m args meth c own cc nL rt) {idx ci j k : Nat} {x : Int} (d : decode cc pc = .ok (.putfield idx, 3)) (f : Lf own idx ci j) (hfin : (cT ci j).2.2.2 = false) (hk : k < n) (hc : (kd k).1 = ci) (ht : tyOf ci j = .int) (kk : OK Γ p l e R s m args below meth c n0 Q (pc + 3) L st n g (up h k (j : Int) x)) : OK Γ p l e R s m args below meth c n0 Q pc L (vI x :: vR k :: st) n g h :=
  ok_put a d f hfin hk hc (fun r => by rw [ht]; rfl) (by rw [ht]; rfl) (by rw [ht]; rfl) kk
theorem ok_putL (a : Ac Γ p s m args meth c own cc nL rt) {idx ci j k : Nat} {x : Int} (d : decode cc pc = .ok (.putfield idx, 3)) (f : Lf own idx ci j) (hfin : (cT ci j).2.2.2 = false) (hk : k < n) (hc : (kd k).1 = ci) (ht : tyOf ci j = .long) (kk : OK Γ p l e R s m args below meth c n0 Q (pc + 3) L st n g (up h k (j : Int) x)) : OK Γ p l e R s m args below meth c n0 Q pc L (vL x :: vR k :: st) n g h :=
  ok_put a d f hfin hk hc (fun r => by rw [ht]; rfl) (by rw [ht]; rfl) (by rw [ht]; rfl) kk
theorem ok_putZ (a : Ac Γ p s m args meth c own cc nL rt) {idx ci j k : Nat} {x : Int} (d : decode cc pc = .ok (.putfield idx, 3)) (f : Lf own idx ci j) (hfin : (cT ci j).2.2.2 = false) (hk : k < n) (hc : (kd k).1 = ci) (ht : tyOf ci j = .boolean) (hx : x = 0 ∨ x = 1) (kk : OK Γ p l e R s m args below meth c n0 Q (pc + 3) L st n g (up h k (j : Int) x)) : OK Γ p l e R s m args below meth c n0 Q pc L (vI x :: vR k :: st) n g h := by
  rcases hx with rfl | rfl
  · exact ok_put a d f hfin hk hc (fun r => by rw [ht]; rfl) (by rw [ht]; rfl) (by rw [ht]; rfl) kk
  · exact ok_put a d f hfin hk hc (fun r => by rw [ht]; rfl) (by rw [ht]; rfl) (by rw [ht]; rfl) kk
theorem ok_getI (a : Ac Γ p s m args meth c own cc nL rt) {idx ci j k : Nat} (d : decode cc pc = .ok (.getfield idx, 3)) (f : Lf own idx ci j) (hk : k < n) (hc : (kd k).1 = ci) (ht : tyOf ci j = .int ∨ tyOf ci j = .boolean) (kk : OK Γ p l e R s m args below meth c n0 Q (pc + 3) L (vI (h k (j : Int)) :: st) n g h) : OK Γ p l e R s m args below meth c n0 Q pc L (vR k :: st) n g h :=
  ok_get a d f hk hc (by rcases ht with ht | ht <;> rw [ht] <;> rfl) kk
theorem ok_getL (a : Ac Γ p s m args meth c own cc nL rt) {idx ci j k : Nat} (d : decode cc pc = .ok (.getfield idx, 3)) (f : Lf own idx ci j) (hk : k < n) (hc : (kd k).1 = ci) (ht : tyOf ci j = .long) (kk : OK Γ p l e R s m args below meth c n0 Q (pc + 3) L (vL (h k (j : Int)) :: st) n g h) : OK Γ p l e R s m args below meth c n0 Q pc L (vR k :: st) n g h :=
  ok_get a d f hk hc (by rw [ht]; rfl) kk
def isRefT (t : FieldType) : Bool := match t with
  | .int => false
  | .boolean => false
  | .long => false
  | _ => true
theorem ok_getR (a : Ac Γ p s m args meth c own cc nL rt) {idx ci j k r : Nat} (d : decode cc pc = .ok (.getfield idx, 3)) (f : Lf own idx ci j) (hk : k < n) (hc : (kd k).1 = ci) (ht : isRefT (tyOf ci j) = true) (hg : g k (j : Int) = some r) (kk : OK Γ p l e R s m args below meth c n0 Q (pc + 3) L (vR r :: st) n g h) : OK Γ p l e R s m args below meth c n0 Q pc L (vR k :: st) n g h :=
  ok_get a d f hk hc (by rw [hg]; generalize tyOf ci j = t at ht; cases t <;> first | rfl | cases ht) kk
-- ARRAYS
theorem ok_ald (a : Ac Γ p s m args meth c own cc nL rt) {i : Int} {k t len : Nat} (hk : k < n) (hc : kd k = (10 + t, len)) (hlen : len < 2147483648) (hi : 0 ≤ i ∧ i < len)
    (d : (t = 0 ∧ decode cc pc = .ok (.iaload, 1)) ∨ (t = 1 ∧ decode cc pc = .ok (.caload, 1)) ∨ (t = 2 ∧ decode cc pc = .ok (.saload, 1)) ∨ (t = 3 ∧ decode cc pc = .ok (.baload, 1))) (kk : OK Γ p l e R s m args below meth c n0 Q (pc + 1) L (vI (h k i) :: st) n g h) : OK Γ p l e R s m args below meth c n0 Q pc L (vI i :: vR k :: st) n g h := by
  intro H locs ls hH hS hL
  have k1 := kk H locs ls hH hS hL
  obtain ⟨hn, hP⟩ := hH
  have ht : t < 4 := by rcases d with d | d | d | d <;> omega
  have he := aw_at (Γ := Γ) (g := g) (h := h) hk
  rw [cw_arr hc ht] at he
  have hin := i32_in hi.1 hi.2 hlen
  have hcl := i32_cl hi.1 (by omega : i < 2147483648)
  have e2 : ((i.toNat : Nat) : Int) = i := Int.toNat_of_nonneg hi.1
  have k2 : W p l e R s m args below meth c H locs (n - n0) (sl n - sl n0) Q (F0 m (pc + 1) ls (.int ((fun j : Nat => Int32.ofInt (h k (j : Int))) (Int32.ofInt i).toNatClampNeg) :: st.map (enc Γ))) := by
    show W p l e R s m args below meth c H locs (n - n0) (sl n - sl n0) Q (F0 m (pc + 1) ls (.int (Int32.ofInt (h k (((Int32.ofInt i).toNatClampNeg : Nat) : Int))) :: st.map (enc Γ)))
    rw [hcl, e2]
    exact k1
  simp only [List.map_cons, enc_R (Γ := Γ) (show k < 1000 by omega)]
  have hK := a.2.2.2.2.2.2.2.1
  rcases d with ⟨rfl, d⟩ | ⟨rfl, d⟩ | ⟨rfl, d⟩ | ⟨rfl, d⟩
  · exact va_iald (D := Γ.1) a.1 a.2.1 hK hP k 0 he rfl hin d k2
  · exact va_cald (D := Γ.1) a.1 a.2.1 hK hP k 1 he rfl hin d k2
  · exact va_sald (D := Γ.1) a.1 a.2.1 hK hP k 2 he rfl hin d k2
  · exact va_zald (D := Γ.1) a.1 a.2.1 hK hP k 3 he rfl hin d k2
theorem ok_iald (a : Ac Γ p s m args meth c own cc nL rt) {i : Int} {k len : Nat} (d : decode cc pc = .ok (.iaload, 1)) (hk : k < n) (hc : kd k = (10, len)) (hlen : len < 2147483648) (hi : 0 ≤ i ∧ i < len) (kk : OK Γ p l e R s m args below meth c n0 Q (pc + 1) L (vI (h k i) :: st) n g h) : OK Γ p l e R s m args below meth c n0 Q pc L (vI i :: vR k :: st) n g h := ok_ald a (t := 0) hk hc hlen hi (Or.inl ⟨rfl, d⟩) kk
theorem ok_cald (a : Ac Γ p s m args meth c own cc nL rt) {i : Int} {k len : Nat} (d : decode cc pc = .ok (.caload, 1)) (hk : k < n) (hc : kd k = (11, len)) (hlen : len < 2147483648) (hi : 0 ≤ i ∧ i < len) (kk : OK Γ p l e R s m args below meth c n0 Q (pc + 1) L (vI (h k i) :: st) n g h) : OK Γ p l e R s m args below meth c n0 Q pc L (vI i :: vR k :: st) n g h := ok_ald a (t := 1) hk hc hlen hi (Or.inr (Or.inl ⟨rfl, d⟩)) kk
theorem ok_sald (a : Ac Γ p s m args meth c own cc nL rt) {i : Int} {k len : Nat} (d : decode cc pc = .ok (.saload, 1)) (hk : k < n) (hc : kd k = (12, len)) (hlen : len < 2147483648) (hi : 0 ≤ i ∧ i < len) (kk : OK Γ p l e R s m args below meth c n0 Q (pc + 1) L (vI (h k i) :: st) n g h) : OK Γ p l e R s m args below meth c n0 Q pc L (vI i :: vR k :: st) n g h := ok_ald a (t := 2) hk hc hlen hi (Or.inr (Or.inr (Or.inl ⟨rfl, d⟩))) kk
theorem ok_bald (a : Ac Γ p s m args meth c own cc nL rt) {i : Int} {k len : Nat} (d : decode cc pc = .ok (.baload, 1)) (hk : k < n) (hc : kd k = (13, len)) (hlen : len < 2147483648) (hi : 0 ≤ i ∧ i < len) (kk : OK Γ p l e R s m args below meth c n0 Q (pc + 1) L (vI (h k i) :: st) n g h) : OK Γ p l e R s m args below meth c n0 Q pc L (vI i :: vR k :: st) n g h := ok_ald a (t := 3) hk hc hlen hi (Or.inr (Or.inr (Or.inr ⟨rfl, d⟩))) kk
theorem vp_nar_c {x : Int} (hx : 0 ≤ x ∧ x < 65536) : vp_nar .char (Int32.ofInt x) = Int32.ofInt x := by
  unfold vp_nar
  rw [ofInt_nI hx.1, (pk_charN (by omega)).1]
theorem vp_nar_s {x : Int} (hx : 0 ≤ x ∧ x < 32768) : vp_nar .short (Int32.ofInt x) = Int32.ofInt x := by
  rw [vp_nar_short, i2s_id hx]
theorem vp_nar_z {x : Int} (hx : x = 0 ∨ x = 1) : vp_nar .boolean (Int32.ofInt x) = Int32.ofInt x := by
  rcases hx with rfl | rfl <;> decide
theorem ok_ast (a : Ac Γ p s m args meth c own cc nL rt) {i x : Int} {k t len : Nat} (hk : k < n) (hc : kd k = (10 + t, len)) (hlen : len < 2147483648) (hi : 0 ≤ i ∧ i < len)
    (d : (t = 0 ∧ decode cc pc = .ok (.iastore, 1)) ∨ (t = 1 ∧ decode cc pc = .ok (.castore, 1) ∧ 0 ≤ x ∧ x < 65536) ∨ (t = 2 ∧ decode cc pc = .ok (.sastore, 1) ∧ 0 ≤ x ∧ x < 32768) ∨ (t = 3 ∧ decode cc pc = .ok (.bastore, 1) ∧ (x = 0 ∨ x = 1))) (kk : OK Γ p l e R s m args below meth c n0 Q (pc + 1) L st n g (up h k i x)) : OK Γ p l e R s m args below meth c n0 Q pc L (vI x :: vI i :: vR k :: st) n g h := by
  intro H locs ls hH hS hL
  obtain ⟨hn, hP⟩ := hH
  have ht : t < 4 := by rcases d with d | d | d | d <;> omega
  have he := aw_at (Γ := Γ) (g := g) (h := h) hk
  rw [cw_arr hc ht] at he
  have hin := i32_in hi.1 hi.2 hlen
  have hcl := i32_cl hi.1 (by omega : i < 2147483648)
  have hf : upd (fun j : Nat => Int32.ofInt (h k (j : Int))) (Int32.ofInt i).toNatClampNeg (Int32.ofInt x) = fun j : Nat => Int32.ofInt (up h k i x k (j : Int)) := by
    funext j
    rw [hcl]
    by_cases hj : j = i.toNat
    · subst hj
      have e2 : ((i.toNat : Nat) : Int) = i := Int.toNat_of_nonneg hi.1
      simp [upd, up, e2]
    · have : ¬ (j : Int) = i := by omega
      simp [upd, up, hj, this]
  have hset : (aw Γ n g h).set k (Γ.2.2.1 + k, .inl (Γ.2.1 t, len, .inl (upd (fun j : Nat => Int32.ofInt (h k (j : Int))) (Int32.ofInt i).toNatClampNeg (Int32.ofInt x)))) = aw Γ n g (up h k i x) := by
    refine aw_set hk ?_ cw_oth
    rw [cw_arr hc ht, hf]
  have k1 : ∀ (H1 : Heap) (locs1 : List Loc), va_P Γ.1 vwCl ((aw Γ n g h).set k (Γ.2.2.1 + k, .inl (Γ.2.1 t, len, .inl (upd (fun j : Nat => Int32.ofInt (h k (j : Int))) (Int32.ofInt i).toNatClampNeg (Int32.ofInt x))))) H1 → va_D (AA Γ) ((aw Γ n g h).set k (Γ.2.2.1 + k, .inl (Γ.2.1 t, len, .inl (upd (fun j : Nat => Int32.ofInt (h k (j : Int))) (Int32.ofInt i).toNatClampNeg (Int32.ofInt x))))) → va_S (AA Γ) s.heap H1 locs1 → W p l e R s m args below meth c H1 locs1 (n - n0) (sl n - sl n0) Q (F0 m (pc + 1) ls (st.map (enc Γ))) := fun H1 locs1 q1 _ q3 => kk H1 locs1 ls ⟨hn, by rw [← hset]; exact q1⟩ q3 hL
  simp only [List.map_cons, enc_R (Γ := Γ) (show k < 1000 by omega)]
  have hK := a.2.2.2.2.2.2.2.1
  rcases d with ⟨rfl, d⟩ | ⟨rfl, d, hx⟩ | ⟨rfl, d, hx⟩ | ⟨rfl, d, hx⟩
  · exact va_iast (D := Γ.1) a.1 a.2.1 hK hP aw_D hS k 0 he rfl hin d k1
  · refine va_cast (D := Γ.1) a.1 a.2.1 hK hP aw_D hS k 1 he rfl hin d ?_
    rw [vp_nar_c hx]; exact k1
  · refine va_sast (D := Γ.1) a.1 a.2.1 hK hP aw_D hS k 2 he rfl hin d ?_
    rw [vp_nar_s hx]; exact k1
  · refine va_zast (D := Γ.1) a.1 a.2.1 hK hP aw_D hS k 3 he rfl hin d ?_
    rw [vp_nar_z hx]; exact k1
theorem ok_iast (a : Ac Γ p s m args meth c own cc nL rt) {i x : Int} {k len : Nat} (d : decode cc pc = .ok (.iastore, 1)) (hk : k < n) (hc : kd k = (10, len)) (hlen : len < 2147483648) (hi : 0 ≤ i ∧ i < len) (kk : OK Γ p l e R s m args below meth c n0 Q (pc + 1) L st n g (up h k i x)) : OK Γ p l e R s m args below meth c n0 Q pc L (vI x :: vI i :: vR k :: st) n g h := ok_ast a (t := 0) hk hc hlen hi (Or.inl ⟨rfl, d⟩) kk
theorem ok_cast (a : Ac Γ p s m args meth c own cc nL rt) {i x : Int} {k len : Nat} (d : decode cc pc = .ok (.castore, 1)) (hk : k < n) (hc : kd k = (11, len)) (hlen : len < 2147483648) (hi : 0 ≤ i ∧ i < len) (hx : 0 ≤ x ∧ x < 65536) (kk : OK Γ p l e R s m args below meth c n0 Q (pc + 1) L st n g (up h k i x)) : OK Γ p l e R s m args below meth c n0 Q pc L (vI x :: vI i :: vR k :: st) n g h := ok_ast a (t := 1) hk hc hlen hi (Or.inr (Or.inl ⟨rfl, d, hx⟩)) kk
theorem ok_sast (a : Ac Γ p s m args meth c own cc nL rt) {i x : Int} {k len : Nat} (d : decode cc pc = .ok (.sastore, 1)) (hk : k < n) (hc : kd k = (12, len)) (hlen : len < 2147483648) (hi : 0 ≤ i ∧ i < len) (hx : 0 ≤ x ∧ x < 32768) (kk : OK Γ p l e R s m args below meth c n0 Q (pc + 1) L st n g (up h k i x)) : OK Γ p l e R s m args below meth c n0 Q pc L (vI x :: vI i :: vR k :: st) n g h := ok_ast a (t := 2) hk hc hlen hi (Or.inr (Or.inr (Or.inl ⟨rfl, d, hx⟩))) kk
theorem ok_bast (a : Ac Γ p s m args meth c own cc nL rt) {i x : Int} {k len : Nat} (d : decode cc pc = .ok (.bastore, 1)) (hk : k < n) (hc : kd k = (13, len)) (hlen : len < 2147483648) (hi : 0 ≤ i ∧ i < len) (hx : x = 0 ∨ x = 1) (kk : OK Γ p l e R s m args below meth c n0 Q (pc + 1) L st n g (up h k i x)) : OK Γ p l e R s m args below meth c n0 Q pc L (vI x :: vI i :: vR k :: st) n g h := ok_ast a (t := 3) hk hc hlen hi (Or.inr (Or.inr (Or.inr ⟨rfl, d, hx⟩))) kk
theorem ok_aald (a : Ac Γ p s m args meth c own cc nL rt) {i : Int} {k len r : Nat} (d : decode cc pc = .ok (.aaload, 1)) (hk : k < n) (hc : kd k = (14, len)) (hlen : len < 2147483648) (hi : 0 ≤ i ∧ i < len) (hg : g k i = some r) (kk : OK Γ p l e R s m args below meth c n0 Q (pc + 1) L (vR r :: st) n g h) : OK Γ p l e R s m args below meth c n0 Q pc L (vI i :: vR k :: st) n g h := by
  intro H locs ls hH hS hL
  have k1 := kk H locs ls hH hS hL
  obtain ⟨hn, hP⟩ := hH
  have he := aw_at (Γ := Γ) (g := g) (h := h) hk
  rw [cw_ref hc] at he
  have hin := i32_in hi.1 hi.2 hlen
  have hcl := i32_cl hi.1 (by omega : i < 2147483648)
  have e2 : ((i.toNat : Nat) : Int) = i := Int.toNat_of_nonneg hi.1
  simp only [List.map_cons, enc_R (Γ := Γ) (show k < 1000 by omega)]
  refine va_aldq (D := Γ.1) a.1 a.2.1 a.2.2.2.2.2.2.2.1 hP k 4 he rfl hin d ?_
  show W p l e R s m args below meth c H locs (n - n0) (sl n - sl n0) Q (F0 m (pc + 1) ls (va_rf ((g k (((Int32.ofInt i).toNatClampNeg : Nat) : Int)).map (ad Γ)) :: st.map (enc Γ)))
  rw [hcl, e2, hg]
  exact k1
theorem ok_alen (a : Ac Γ p s m args meth c own cc nL rt) {k t len : Nat} (d : decode cc pc = .ok (.arraylength, 1)) (hk : k < n) (hc : kd k = (10 + t, len)) (ht : t < 4) (kk : OK Γ p l e R s m args below meth c n0 Q (pc + 1) L (vI (len : Int) :: st) n g h) : OK Γ p l e R s m args below meth c n0 Q pc L (vR k :: st) n g h := by
  intro H locs ls hH hS hL
  have k1 := kk H locs ls hH hS hL
  obtain ⟨hn, hP⟩ := hH
  have he := aw_at (Γ := Γ) (g := g) (h := h) hk
  rw [cw_arr hc ht] at he
  simp only [List.map_cons, enc_R (Γ := Γ) (show k < 1000 by omega)]
  have hty : ∃ ty, (tysG Γ)[t]? = some (Γ.2.1 t, ty) := by
    rcases (show t = 0 ∨ t = 1 ∨ t = 2 ∨ t = 3 by omega) with rfl | rfl | rfl | rfl <;> exact ⟨_, rfl⟩
  obtain ⟨ty, hty⟩ := hty
  exact va_alen (D := Γ.1) a.1 a.2.1 a.2.2.2.2.2.2.2.1 hP k t he hty (by show Int32.ofNat len = Int32.ofInt (len : Int); rw [ofInt_nI (by omega)]; rfl) d k1
def cpy (h : aH) (ks : Nat) (sp : Int) (kt : Nat) (dp len : Int) : aH := fun k i => if k = kt ∧ dp ≤ i ∧ i < dp + len then h ks (sp + (i - dp)) else h k i
def catA (v : aV) : Nat := match v with
  | .inr (.inl _) => 2
  | _ => 1
theorem cat_enc {Γ : Gm} (v : aV) : (enc Γ v).category = catA v := by
  rcases v with x | x | r
  · rfl
  · rfl
  · cases r <;> rfl
theorem cat_sum {Γ : Gm} (st : List aV) : ((st.map (enc Γ)).map (fun v => v.category)).sum = (st.map catA).sum := by
  rw [List.map_map]
  congr 1
  exact List.map_congr_left (fun v _ => cat_enc v)
def LkC (own : String) (idx : Nat) : Prop := Cond.methodLink own idx arraycopyName ∈ gtb ∧ Cond.native arraycopyName ∈ gtb ∧ Cond.static arraycopyName ∈ gtb ∧ Cond.initialized "java/lang/System" ∈ gtb
theorem ok_copy (a : Ac Γ p s m args meth c own cc nL rt) {idx ks kt n1 n2 : Nat} {sp dp len : Int} (d : decode cc pc = .ok (.invokestatic idx, 3)) (lk : LkC own idx) (hk1 : ks < n) (hk2 : kt < n) (hc1 : kd ks = (10, n1)) (hc2 : kd kt = (10, n2)) (hl1 : n1 < 2147483648) (hl2 : n2 < 2147483648) (h0 : 0 ≤ sp ∧ 0 ≤ dp ∧ 0 ≤ len ∧ sp + len ≤ n1 ∧ dp + len ≤ n2) (hfr : 1 ≤ R.frames) (hlo : (st.map catA).sum + (nativeFrameWords "java/lang/System" "arraycopy" 5 + 11) ≤ R.locals)
    (kk : OK Γ p l e R s m args below meth c n0 Q (pc + 3) L st n g (cpy h ks sp kt dp len)) : OK Γ p l e R s m args below meth c n0 Q pc L (vI len :: vI dp :: vR kt :: vI sp :: vR ks :: st) n g h := by
  intro H locs ls hH hS hL
  obtain ⟨hn, hP⟩ := hH
  have he1 := aw_at (Γ := Γ) (g := g) (h := h) hk1
  rw [cw_arr (t := 0) hc1 (by decide)] at he1
  have he2 := aw_at (Γ := Γ) (g := g) (h := h) hk2
  rw [cw_arr (t := 0) hc2 (by decide)] at he2
  have c1 := i32_cl h0.1 (by omega : sp < 2147483648)
  have c2 := i32_cl h0.2.1 (by omega : dp < 2147483648)
  have c3 := i32_cl h0.2.2.1 (by omega : len < 2147483648)
  have nn : ∀ z : Int, 0 ≤ z → z < 2147483648 → ¬ Int32.ofInt z < 0 := fun z hz hz2 q => by
    rw [i32_0, i32_lt ⟨by omega, by omega⟩ inR0] at q
    omega
  have hf : va_cpy (fun j : Nat => Int32.ofInt (h ks (j : Int))) (fun j : Nat => Int32.ofInt (h kt (j : Int))) sp.toNat dp.toNat len.toNat = fun j : Nat => Int32.ofInt (cpy h ks sp kt dp len kt (j : Int)) := by
    funext j
    by_cases hj : dp.toNat ≤ j ∧ j < dp.toNat + len.toNat
    · have : kt = kt ∧ dp ≤ (j : Int) ∧ (j : Int) < dp + len := ⟨rfl, by omega, by omega⟩
      have e9 : ((sp.toNat + (j - dp.toNat) : Nat) : Int) = sp + ((j : Int) - dp) := by omega
      show (if dp.toNat ≤ j ∧ j < dp.toNat + len.toNat then Int32.ofInt (h ks ((sp.toNat + (j - dp.toNat) : Nat) : Int)) else Int32.ofInt (h kt (j : Int))) = Int32.ofInt (if kt = kt ∧ dp ≤ (j : Int) ∧ (j : Int) < dp + len then h ks (sp + ((j : Int) - dp)) else h kt (j : Int))
      rw [if_pos hj, if_pos this, e9]
    · have : ¬ (kt = kt ∧ dp ≤ (j : Int) ∧ (j : Int) < dp + len) := fun q => hj ⟨by omega, by omega⟩
      show (if dp.toNat ≤ j ∧ j < dp.toNat + len.toNat then Int32.ofInt (h ks ((sp.toNat + (j - dp.toNat) : Nat) : Int)) else Int32.ofInt (h kt (j : Int))) = Int32.ofInt (if kt = kt ∧ dp ≤ (j : Int) ∧ (j : Int) < dp + len then h ks (sp + ((j : Int) - dp)) else h kt (j : Int))
      rw [if_neg hj, if_neg this]
  have hset : (aw Γ n g h).set kt (Γ.2.2.1 + kt, .inl (Γ.2.1 0, n2, .inl (va_cpy (fun j : Nat => Int32.ofInt (h ks (j : Int))) (fun j : Nat => Int32.ofInt (h kt (j : Int))) (Int32.ofInt sp).toNatClampNeg (Int32.ofInt dp).toNatClampNeg (Int32.ofInt len).toNatClampNeg))) = aw Γ n g (cpy h ks sp kt dp len) := by
    refine aw_set hk2 ?_ ?_
    · rw [cw_arr (t := 0) hc2 (by decide), c1, c2, c3, hf]
    · intro k' hk'
      have e : ∀ j, cpy h ks sp kt dp len k' j = h k' j := fun j => by simp [cpy, hk']
      unfold cw
      simp only [e]
  simp only [List.map_cons, enc_R (Γ := Γ) (show ks < 1000 by omega), enc_R (Γ := Γ) (show kt < 1000 by omega)]
  refine va_copyi (D := Γ.1) a.1 a.2.1 hL.1.symm a.2.2.2.2.2.1 (a.2.2.2.2.2.2.1 _ lk.1) (a.2.2.2.2.2.2.1 _ lk.2.1) (a.2.2.2.2.2.2.1 _ lk.2.2.1) (a.2.2.2.2.2.2.1 _ lk.2.2.2) a.2.2.2.2.2.2.2.1 hP aw_D hS ks kt 0 0 he1 he2 rfl rfl rfl (nn sp h0.1 (by omega)) (nn dp h0.2.1 (by omega)) (nn len h0.2.2.1 (by omega)) (by rw [c1, c3]; omega) (by rw [c2, c3]; omega) (fun _ _ => rfl) hfr (by rw [cat_sum]; exact hlo) d (fun H1 locs1 q1 _ q3 => ?_)
  exact kk H1 locs1 ls ⟨hn, by rw [← hset]; exact q1⟩ q3 hL
end HEAP
