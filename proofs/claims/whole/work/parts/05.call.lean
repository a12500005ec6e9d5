-- CONTRACTS
def wsy (y : MethodName) (cc : ByteArray) (nL : Nat) (rt : Option FieldType) : List Cond := Cond.code y cc nL rt :: gtb
def QQ (Γ : Gm) (nE : Nat) (Q : Option aV → aG → aH → Prop) : Array Value → State → Outcome → State → Prop := fun _ sT oc t => (∃ (v : Option aV) (g : aG) (h : aH), oc = .returned (v.map (enc Γ)) ∧ Q v g h ∧ HR Γ nE g h t.heap) ∧ va_F (AA Γ) sT t
def rmd (d n nE : Nat) : Room := { frames := d, cells := nE - n, slots := sl nE - sl n, locals := 40 * d }
abbrev MI : Type := MethodName × ByteArray × Nat × Option FieldType × Nat
/-- method y (name, code, locals, return type, depth) called with as: no cell is made, it returns, and Q holds of what it gives -/
def Cl (Γ : Gm) (l : Launch) (y : MI) (as : List aV) (n : Nat) (g : aG) (h : aH) (Q : Option aV → aG → aH → Prop) : Prop :=
  Met l y.1 (wsy y.1 y.2.1 y.2.2.1 y.2.2.2.1) (rmd y.2.2.2.2 n n) (va_Pc (as.map (enc Γ)) (fun U => HR Γ n g h U.heap ∧ KK Γ U)) (QQ Γ n Q) (n - n) (sl n - sl n) (AA Γ)
def entL (as : List aV) : List (Option aV) := match as with
  | [] => []
  | .inr (.inl x) :: vs => some (.inr (.inl x)) :: none :: entL vs
  | v :: vs => some v :: entL vs
theorem entL_mem {Γ : Gm} : ∀ (as : List aV) (o i : Nat) (v : aV), (entL as)[i]? = some (some v) → (o + i, enc Γ v) ∈ lv_args o (as.map (enc Γ))
  | [], o, i, v, h => by simp [entL] at h
  | .inl x :: vs, o, 0, v, h => by
    simp [entL] at h
    subst h
    exact List.mem_cons_self
  | .inl x :: vs, o, i + 1, v, h => by
    have h1 : (entL vs)[i]? = some (some v) := by simpa [entL] using h
    have := entL_mem (Γ := Γ) vs (o + 1) i v h1
    rw [show o + 1 + i = o + (i + 1) by omega] at this
    exact List.mem_cons_of_mem _ this
  | .inr (.inl x) :: vs, o, 0, v, h => by
    simp [entL] at h
    subst h
    exact List.mem_cons_self
  | .inr (.inl x) :: vs, o, 1, v, h => by simp [entL] at h
  | .inr (.inl x) :: vs, o, i + 2, v, h => by
    have h1 : (entL vs)[i]? = some (some v) := by simpa [entL] using h
    have := entL_mem (Γ := Γ) vs (o + 2) i v h1
    rw [show o + 2 + i = o + (i + 2) by omega] at this
    exact List.mem_cons_of_mem _ this
  | .inr (.inr x) :: vs, o, 0, v, h => by
    simp [entL] at h
    subst h
    exact List.mem_cons_self
  | .inr (.inr x) :: vs, o, i + 1, v, h => by
    have h1 : (entL vs)[i]? = some (some v) := by simpa [entL] using h
    have := entL_mem (Γ := Γ) vs (o + 1) i v h1
    rw [show o + 1 + i = o + (i + 1) by omega] at this
    have hc : (enc Γ (.inr (.inr x))).category = 1 := by rw [cat_enc]; rfl
    show _ ∈ (o, enc Γ (.inr (.inr x))) :: lv_args (if (enc Γ (.inr (.inr x))).category = 2 then o + 2 else o + 1) (vs.map (enc Γ))
    rw [if_neg (by rw [hc]; decide)]
    exact List.mem_cons_of_mem _ this
theorem lg_len {Γ : Gm} : ∀ as : List aV, (lg_sl (as.map (enc Γ))).length = (entL as).length
  | [] => rfl
  | .inl x :: vs => by simp [lg_sl, enc, entL, Value.category, ← lg_len (Γ := Γ) vs]
  | .inr (.inl x) :: vs => by simp [lg_sl, enc, entL, Value.category, ← lg_len (Γ := Γ) vs]
  | .inr (.inr none) :: vs => by simp [lg_sl, enc, entL, va_rf, Value.category, ← lg_len (Γ := Γ) vs]
  | .inr (.inr (some k)) :: vs => by simp [lg_sl, enc, entL, va_rf, Value.category, ← lg_len (Γ := Γ) vs]
theorem Cl.of {Γ : Gm} {l : Launch} {y : MethodName} {cc : ByteArray} {nL d : Nat} {rt : Option FieldType} {as : List aV} {n : Nat} {g : aG} {h : aH} {Q : Option aV → aG → aH → Prop} (hy : plainName y.cls = true) (L0 : List (Option aV)) (hL0 : entL as ++ List.replicate (nL - (entL as).length) none = L0) (hlen : (entL as).length ≤ nL)
    (body : ∀ (p : Program) (e : Env) (s : State) (m : MethodId) (args : Array Value) (below : List Frame) (meth : Method) (c : Code), Ac Γ p s m args meth c y.cls cc nL rt → OK Γ p l e (rmd d n n) s m args below meth c n (MQ below (QQ Γ n Q) args s (n - n) (sl n - sl n) (AA Γ)) 0 L0 [] n g h) : Cl Γ l (y, cc, nL, rt, d) as n g h Q := by
  refine Met.ofW (cc := cc) (maxL := nL) (ret := rt) hy rfl ?_
  intro p e s m args below meth c s₁ B hml hv
  obtain ⟨rfl, hH, hK⟩ := hv
  have hts := atoms_spec (ws := wsy y cc nL rt) B.pre
  have a : Ac Γ p s m (as.map (enc Γ)).toArray meth c y.cls cc nL rt := ⟨B.exec, B.bytes, hml, B.returns, B.notSynchronized, findClass_of_methodNamed B.named, fun w hw => hts w (List.mem_cons_of_mem _ hw), hK⟩
  have hl := lv_entry (as.map (enc Γ)) (n := nL) (by rw [lg_len]; exact hlen)
  rw [lg_entry_eq]
  generalize (lg_sl (as.map (enc Γ)) ++ List.replicate (nL - (lg_sl (as.map (enc Γ))).length) Slot.unset).toArray = ls at hl ⊢
  have hLR : LR Γ c.maxLocals L0 ls := by
    rw [hml]
    refine ⟨hl.1, hl.2.1, by rw [← hL0]; simp; omega, fun i v hi => ?_⟩
    rw [← hL0] at hi
    by_cases hlt : i < (entL as).length
    · rw [List.getElem?_append_left hlt] at hi
      have := entL_mem (Γ := Γ) as 0 i v hi
      rw [Nat.zero_add] at this
      exact hl.2.2 _ this
    · rw [List.getElem?_append_right (by omega)] at hi
      have := List.mem_of_getElem? hi
      rw [List.mem_replicate] at this
      cases this.2
  have k := body p e s m _ below meth c a s.heap [] ls hH va_S.rf hLR
  rw [Nat.sub_self, Nat.sub_self] at k
  rw [Nat.sub_self, Nat.sub_self]
  exact k
section CALL
variable {Γ : Gm} {p : Program} {l : Launch} {e : Env} {R : Room} {s : State} {m : MethodId} {args : Array Value} {below : List Frame} {meth : Method} {c : Code} {own : String} {cc : ByteArray} {nL : Nat} {rt : Option FieldType} {n0 : Nat} {Q : State → Prop} {pc : Nat} {L : List (Option aV)} {st : List aV} {n : Nat} {g : aG} {h : aH} {Q' : Option aV → aG → aH → Prop}
theorem ok_iret (a : Ac Γ p s m args meth c own cc nL (some .int)) {x : Int} (d : decode cc pc = .ok (.ireturn, 1)) (hq : Q' (some (vI x)) g h) : OK Γ p l e R s m args below meth c n0 (MQ below (QQ Γ n Q') args s (n - n0) (sl n - sl n0) (AA Γ)) pc L [vI x] n g h := by
  intro H locs ls hH hS hL
  exact W.iret a.1 a.2.1 a.2.2.2.1 (fun t ht _ => ⟨⟨some (vI x), g, h, rfl, hq, by rw [ht]; exact hH⟩, hS.F ht⟩) hS.2.2 d a.2.2.2.2.1
theorem ok_zret (a : Ac Γ p s m args meth c own cc nL (some .boolean)) {x : Int} (d : decode cc pc = .ok (.ireturn, 1)) (hx : x = 0 ∨ x = 1) (hq : Q' (some (vI x)) g h) : OK Γ p l e R s m args below meth c n0 (MQ below (QQ Γ n Q') args s (n - n0) (sl n - sl n0) (AA Γ)) pc L [vI x] n g h := by
  intro H locs ls hH hS hL
  exact W.zret a.1 a.2.1 a.2.2.2.1 (by rcases hx with rfl | rfl <;> rfl) (fun t ht _ => ⟨⟨some (vI x), g, h, rfl, hq, by rw [ht]; exact hH⟩, hS.F ht⟩) hS.2.2 d a.2.2.2.2.1
theorem ok_lret (a : Ac Γ p s m args meth c own cc nL (some .long)) {x : Int} (d : decode cc pc = .ok (.lreturn, 1)) (hq : Q' (some (vL x)) g h) : OK Γ p l e R s m args below meth c n0 (MQ below (QQ Γ n Q') args s (n - n0) (sl n - sl n0) (AA Γ)) pc L [vL x] n g h := by
  intro H locs ls hH hS hL
  exact W.lret a.1 a.2.1 a.2.2.2.1 (fun t ht _ => ⟨⟨some (vL x), g, h, rfl, hq, by rw [ht]; exact hH⟩, hS.F ht⟩) hS.2.2 d a.2.2.2.2.1
theorem ok_vret (a : Ac Γ p s m args meth c own cc nL none) (d : decode cc pc = .ok (.return_, 1)) (hq : Q' none g h) : OK Γ p l e R s m args below meth c n0 (MQ below (QQ Γ n Q') args s (n - n0) (sl n - sl n0) (AA Γ)) pc L [] n g h := by
  intro H locs ls hH hS hL
  exact W.vret a.1 a.2.1 a.2.2.2.1 (fun t ht _ => ⟨⟨none, g, h, rfl, hq, by rw [ht]; exact hH⟩, hS.F ht⟩) hS.2.2 d a.2.2.2.2.1
/-- the words of a call -/
def LkB (y : MI) (na : Nat) : Prop := Cond.initialized y.1.cls ∈ gtb ∧ Cond.code y.1 y.2.1 y.2.2.1 y.2.2.2.1 ∈ gtb ∧ (y.1.cls ≠ "java/lang/invoke/MethodHandle" ∧ y.1.cls ≠ "java/lang/invoke/VarHandle" ∧ (parseMethodDescriptor y.1.desc).map (fun d => d.parameters.length) = some na)
def LkM (own : String) (idx : Nat) (y : MI) : Prop := Cond.methodLink own idx y.1 ∈ gtb ∨ ∃ host, Cond.methodLinkNest own idx y.1 host ∈ lw_tbl
def LkV (own : String) (idx : Nat) (y : MI) (na : Nat) : Prop := LkB y na ∧ LkM own idx y ∧ Cond.instanceMethod y.1 ∈ gtb ∧ Cond.selects y.1.cls y.1 y.1 ∈ gtb
def LkS (own : String) (idx : Nat) (y : MI) (na : Nat) : Prop := LkB y na ∧ LkM own idx y ∧ Cond.static y.1 ∈ gtb
theorem good_wsy {y : MI} {na : Nat} (b : LkB y na) : GoodIn gtb (wsy y.1 y.2.1 y.2.2.1 y.2.2.2.1) := by
  intro w hw
  rcases List.mem_cons.mp hw with rfl | hw
  · exact ⟨b.2.1, gtb_good _ b.2.1⟩
  · exact ⟨hw, gtb_good _ hw⟩
theorem blind_pc {as : List Value} : FrameBlind (va_Pc as (fun U => HR Γ n g h U.heap ∧ KK Γ U)) := fun _ _ _ _ q => ⟨q.1, q.2.1, q.2.2.blind⟩
/-- behind any call -/
theorem ok_run {mc ms : Nat} {q0 : aH} {st0 : List aV} {as : Array Value} (hmc : mc = 0) (hms : ms = 0) (hr : ∀ (H : Heap) (locs : List Loc) (ls : Array Slot), HR Γ n g h H → va_S (AA Γ) s.heap H locs → LR Γ c.maxLocals L ls → va_Run p l e R s m args below meth c H locs (n - n0) (sl n - sl n0) mc ms (F0 m pc ls (st0.map (enc Γ))) (st.map (enc Γ)) (QQ Γ n Q' as) (AA Γ))
    (kk : ∀ v g' h', Q' v g' h' → OK Γ p l e R s m args below meth c n0 Q (pc + 3) L (v.toList ++ st) n g' h') : OK Γ p l e R s m args below meth c n0 Q pc L st0 n g h := by
  intro H locs ls hH hS hL T hT X
  obtain ⟨v, st₀, t, T', L1, h0, X', hL1, e1, e2, ⟨⟨v', g', h', hv, hq, hh⟩, hz, hkp⟩, stp⟩ := hr H locs ls hH hS hL T hT X
  have hv' : v = v'.map (enc Γ) := by injection hv
  subst hv' hmc hms
  rw [h0] at hz hkp
  obtain ⟨t2, a1, b1⟩ := kk v' g' h' hq T'.heap (locs ++ L1) ls (by rw [e1]; exact hh) ⟨Nat.le_trans hS.1 (by rw [e1]; exact hz), fun q h1 h2 => by rw [e1, hkp q (Nat.lt_of_lt_of_le h1 hS.1) h2]; exact hS.2.1 q h1 h2, fun q hq => by
      rcases List.mem_append.mp hq with h | h
      · exact hS.2.2 q h
      · exact hL1 q h⟩ hL T' rfl X'
  refine ⟨t2, stp t2 ?_, b1⟩
  have e9 : (v'.toList ++ st).map (enc Γ) = (v'.map (enc Γ)).toList ++ st.map (enc Γ) := by
    rw [List.map_append]
    cases v' <;> rfl
  rw [e9] at a1
  exact a1
theorem ok_callV (a : Ac Γ p s m args meth c own cc nL rt) {y : MI} {na idx k ci : Nat} {as : List aV} (M : Cl Γ l y (vR k :: as) n g h Q') (d : decode cc pc = .ok (.invokevirtual idx, 3)) (lk : LkV own idx y na) (hna : as.length = na) (hk : k < n) (hc : (kd k).1 = ci) (hci : ci < 10) (hC : cC ci = y.1.cls) (hR : y.2.2.2.2 + 1 ≤ R.frames ∧ 8 + (y.2.2.1 + 11) + 40 * y.2.2.2.2 ≤ R.locals) (hn0 : n0 = n) (hst : (st.map catA).sum ≤ 8)
    (kk : ∀ v g' h', Q' v g' h' → OK Γ p l e R s m args below meth c n0 Q (pc + 3) L (v.toList ++ st) n g' h') : OK Γ p l e R s m args below meth c n0 Q pc L (as.reverse ++ vR k :: st) n g h := by
  subst hn0
  obtain ⟨lb, lm, li, ls0⟩ := lk
  refine ok_run (q0 := h) (as := (Value.ref (ad Γ k) :: as.map (enc Γ)).toArray) (Nat.sub_self n0) (Nat.sub_self (sl n0)) (fun H locs ls hH hS hL => ?_) kk
  have hts := a.2.2.2.2.2.2.1
  have hcf := cf_all hci
  have hkn : k < 1000 := Nat.lt_of_lt_of_le hk hH.1
  have he := aw_at (Γ := Γ) (g := g) (h := h) hk
  rw [cw_obj hc hci] at he
  have hrc := va_recv a.2.2.2.2.2.2.2.1 hH.2 hcf.1 he
  rw [← ad_lt (Γ := Γ) hkn] at hrc
  have hpre : PreV s H y.1.cls (ad Γ k) (va_Pc ((vR k :: as).map (enc Γ)) (fun U => HR Γ n0 g h U.heap ∧ KK Γ U)) (as.map (enc Γ)) := ⟨blind_pc, by rw [← hC]; exact hrc, fun U hU hW => ⟨rfl, by rw [hU]; exact hH, a.2.2.2.2.2.2.2.go hS hU hW⟩⟩
  have hstk : (F0 m pc ls ((as.reverse ++ vR k :: st).map (enc Γ))).stack = (as.map (enc Γ)).reverse ++ .ref (ad Γ k) :: st.map (enc Γ) := by
    show (as.reverse ++ vR k :: st).map (enc Γ) = _
    rw [List.map_append, List.map_reverse]
    rfl
  have hf : (n0 - n0) + (n0 - n0) ≤ R.cells ∧ (sl n0 - sl n0) + (sl n0 - sl n0) ≤ R.slots := by simp
  have hw8 : 2 * (F0 m pc ls ((as.reverse ++ vR k :: st).map (enc Γ))).monitorRoom + ((st.map (enc Γ)).map fun v => v.category).sum ≤ 8 := lv_room (by rw [cat_sum]; exact hst)
  rcases lm with lm | ⟨host, lm⟩
  · have cb := callB_of (R := R) (s := s) (args := args) (own := own) (index := idx) (rm := rmd y.2.2.2.2 n0 n0) na hts (good_wsy lb) rfl rfl rfl (hts _ lb.1) (hts _ lm) lb.2.2 hR
    exact va_runV ⟨a.1, a.2.1, a.2.2.1, a.2.2.2.2.2.1, hts⟩ M ⟨cb, hts _ li, hts _ ls0⟩ hpre rfl (by rw [List.length_map]; exact hna) (by rw [← a.2.2.1]; exact hL.1) hstk hw8 d hf
  · have cb := va_cnB (R := R) (s := s) (args := args) (own := own) (index := idx) (host := host) (rm := rmd y.2.2.2.2 n0 n0) na hts (good_wsy lb) rfl rfl rfl (a.2.2.2.2.2.2.2.2.1 _ lm rfl) (hts _ lb.1) lb.2.2 hR
    exact va_runVN ⟨a.1, a.2.1, a.2.2.1, a.2.2.2.2.2.1, hts⟩ M ⟨cb, hts _ li, hts _ ls0⟩ hpre rfl (by rw [List.length_map]; exact hna) (by rw [← a.2.2.1]; exact hL.1) hstk hw8 d hf
theorem ok_callS (a : Ac Γ p s m args meth c own cc nL rt) {y : MI} {na idx : Nat} {as : List aV} (M : Cl Γ l y as n g h Q') (d : decode cc pc = .ok (.invokestatic idx, 3)) (lk : LkS own idx y na) (hna : as.length = na) (hR : y.2.2.2.2 + 1 ≤ R.frames ∧ 8 + (y.2.2.1 + 11) + 40 * y.2.2.2.2 ≤ R.locals) (hn0 : n0 = n) (hst : (st.map catA).sum ≤ 8)
    (kk : ∀ v g' h', Q' v g' h' → OK Γ p l e R s m args below meth c n0 Q (pc + 3) L (v.toList ++ st) n g' h') : OK Γ p l e R s m args below meth c n0 Q pc L (as.reverse ++ st) n g h := by
  subst hn0
  obtain ⟨lb, lm, li⟩ := lk
  refine ok_run (q0 := h) (as := (as.map (enc Γ)).toArray) (Nat.sub_self n0) (Nat.sub_self (sl n0)) (fun H locs ls hH hS hL => ?_) kk
  have hts := a.2.2.2.2.2.2.1
  have hpre : PreS s H (va_Pc (as.map (enc Γ)) (fun U => HR Γ n0 g h U.heap ∧ KK Γ U)) (as.map (enc Γ)) := ⟨blind_pc, fun U hU hW => ⟨rfl, by rw [hU]; exact hH, a.2.2.2.2.2.2.2.go hS hU hW⟩⟩
  have hstk : (F0 m pc ls ((as.reverse ++ st).map (enc Γ))).stack = (as.map (enc Γ)).reverse ++ st.map (enc Γ) := by
    show (as.reverse ++ st).map (enc Γ) = _
    rw [List.map_append, List.map_reverse]
  have hf : (n0 - n0) + (n0 - n0) ≤ R.cells ∧ (sl n0 - sl n0) + (sl n0 - sl n0) ≤ R.slots := by simp
  have hw8 : 2 * (F0 m pc ls ((as.reverse ++ st).map (enc Γ))).monitorRoom + ((st.map (enc Γ)).map fun v => v.category).sum ≤ 8 := lv_room (by rw [cat_sum]; exact hst)
  rcases lm with lm | ⟨host, lm⟩
  · have cb := callB_of (R := R) (s := s) (args := args) (own := own) (index := idx) (rm := rmd y.2.2.2.2 n0 n0) na hts (good_wsy lb) rfl rfl rfl (hts _ lb.1) (hts _ lm) lb.2.2 hR
    exact va_runS ⟨a.1, a.2.1, a.2.2.1, a.2.2.2.2.2.1, hts⟩ M ⟨cb, hts _ li⟩ hpre rfl (by rw [List.length_map]; exact hna) (by rw [← a.2.2.1]; exact hL.1) hstk hw8 d hf
  · have cb := va_cnB (R := R) (s := s) (args := args) (own := own) (index := idx) (host := host) (rm := rmd y.2.2.2.2 n0 n0) na hts (good_wsy lb) rfl rfl rfl (a.2.2.2.2.2.2.2.2.1 _ lm rfl) (hts _ lb.1) lb.2.2 hR
    exact va_runSN ⟨a.1, a.2.1, a.2.2.1, a.2.2.2.2.2.1, hts⟩ M ⟨cb, hts _ li, trivial⟩ hpre rfl (by rw [List.length_map]; exact hna) (by rw [← a.2.2.1]; exact hL.1) hstk hw8 d hf
end CALL
-- LOOPS of the pictures
def lpN {σ : Type} (F : (σ → Prop) → σ → Prop) : Nat → σ → Prop
  | 0 => fun _ => False
  | k + 1 => fun x => F (lpN F k) x
def lp {σ : Type} (F : (σ → Prop) → σ → Prop) (x : σ) : Prop := ∃ k, lpN F k x
theorem lp.use {σ : Type} {F : (σ → Prop) → σ → Prop} {P : σ → Prop} (step : ∀ (X : σ → Prop), (∀ y, X y → P y) → ∀ y, F X y → P y) : ∀ x, lp F x → P x := by
  intro x hx
  obtain ⟨k, hk⟩ := hx
  revert x
  induction k with
  | zero => intro x h; exact absurd h (by simp [lpN])
  | succ k ih => intro x h; exact step (lpN F k) ih x h
theorem lp.rule {σ : Type} {F : (σ → Prop) → σ → Prop} (μ : σ → Nat) (I : σ → Prop) (step : ∀ (X : σ → Prop) (y : σ), I y → (∀ z, I z → μ z < μ y → X z) → F X y) (x : σ) (hx : I x) : lp F x := by
  have key : ∀ (k : Nat) (y : σ), I y → μ y < k → lpN F k y := by
    intro k
    induction k with
    | zero => intro y _ h; omega
    | succ k ih => intro y hy h; exact step _ y hy (fun z hz hlt => ih z hz (by omega))
  exact ⟨μ x + 1, key _ x hx (by omega)⟩
