theorem inb_vp {i : Int32} {n : Nat} (h : inb i n = true) : vp_in i n := of_decide_eq_true (p := ¬ (i < 0 ∨ n ≤ i.toNatClampNeg)) h
theorem nz_ne {x : Int32} (h : nz x = true) : ¬ x = 0 := of_decide_eq_true h
theorem isB_nar {x : Int32} (h : isB x = true) : narrow .boolean (.int x) = .int x := by
  rcases of_decide_eq_true h with h | h <;> subst h <;> rfl
theorem hf_t {ρ : Type} {c : Prop} {_ : Decidable c} {a b : Option ρ} {r : Option ρ} (h : c) (hf : (if c then a else b) = r) : a = r := by rwa [if_pos h] at hf
theorem hf_f {ρ : Type} {c : Prop} {_ : Decidable c} {a b : Option ρ} {r : Option ρ} (h : ¬ c) (hf : (if c then a else b) = r) : b = r := by rwa [if_neg h] at hf
theorem hf_ck {ρ : Type} {b : Bool} {a : Option ρ} {r : ρ} (hf : ck b a = some r) : b = true ∧ a = some r := by
  unfold ck at hf
  by_cases h : b = true
  · rw [if_pos h] at hf; exact ⟨h, hf⟩
  · rw [if_neg h] at hf; cases hf
theorem hf_1 {α ρ : Type} {x : Option α} {g : α → Option ρ} {r : ρ} (hf : bd1 x g = some r) : ∃ u, x = some u ∧ g u = some r := by
  cases x with
  | none => cases hf
  | some u => exact ⟨u, rfl, hf⟩
theorem hf_2 {α β ρ : Type} {x : Option (α × β)} {g : α → β → Option ρ} {r : ρ} (hf : bd2 x g = some r) : ∃ u v, x = some (u, v) ∧ g u v = some r := by
  cases x with
  | none => cases hf
  | some u => exact ⟨u.1, u.2, rfl, hf⟩
theorem lp_W {α ρ : Type} {b : (α → Option ρ) → α → Option ρ} {r : ρ} {P : α → Prop} (h : ∀ k x, (∀ y, k y = some r → P y) → b k x = some r → P x) : ∀ n x, lp b n x = some r → P x := by
  intro n
  induction n with
  | zero => intro x hx; cases hx
  | succ n ih => intro x hx; exact h (lp b n) x ih hx
abbrev Ev : Type := va_G × (Nat → Nat) × (ClassId × ClassId × ClassId) × (Nat → Prop) × (Nat × Nat)
abbrev eD (E : Ev) : va_G := E.1
abbrev ea (E : Ev) (k : Nat) : Nat := E.2.1 k
abbrev eI (E : Ev) : ClassId := E.2.2.1.1
abbrev eJ (E : Ev) : ClassId := E.2.2.1.2.1
abbrev eZ (E : Ev) : ClassId := E.2.2.1.2.2
abbrev eA (E : Ev) : Nat → Prop := E.2.2.2.1
abbrev eT (E : Ev) : Nat := E.2.2.2.2.1
abbrev eO (E : Ev) : Nat := E.2.2.2.2.2
abbrev gTy (E : Ev) : List (ClassId × FieldType) := [(eI E, .int), (eJ E, .long), (eZ E, .boolean)]
def KN (E : Ev) (U : State) : Prop := va_K (eD E) gCl (gTy E) U ∧ ∀ w ∈ gN, va_Nw w U
def ZN (E : Ev) (U : State) (H : Heap) : Prop := (va_Z "ChainsHold$Links" "ABOVE" "[I" (.ref (eT E)) (eA E) U H ∧ va_T .int (eT E) 8 (fun j => .int (tblA j)) (eA E) U H) ∧ va_Z "ChainsHold$Links" "OWN_ACTS" "[I" (.ref (eO E)) (eA E) U H ∧ va_T .int (eO E) 32 (fun j => .int (tblO j)) (eA E) U H
def IW (E : Ev) (w : St → va_W) (S : St) (U : State) : Prop := va_P (eD E) gCl (w S) U.heap ∧ va_D (eA E) (w S) ∧ KN E U ∧ ZN E U U.heap
def Wd (E : Ev) (w : St → va_W) (H0 : Heap) (S : St) (H : Heap) (locs : List Loc) : Prop := va_P (eD E) gCl (w S) H ∧ va_D (eA E) (w S) ∧ va_S (eA E) H0 H locs
def QW (E : Ev) (w : St → va_W) (rv : Option Value) (S' : St) : Array Value → State → Outcome → State → Prop := fun _ st o t => o = .returned rv ∧ IW E w S' t ∧ va_F (eA E) st t
def rmh (h : Nat) : Room := { frames := h, cells := 0, slots := 0, locals := 40 * h }
def Ct (l : Launch) (w : Ev → St → va_W) (y : MethodName) (cc : ByteArray) (nL : Nat) (ret : Option FieldType) (h : Nat) (av : Ev → List Value) (S : St) (rv : Ev → Option Value) (S' : St) : Prop :=
  ∀ E : Ev, Met l y (.code y cc nL ret :: gW) (rmh h) (va_Pc (av E) (IW E (w E) S)) (QW E (w E) (rv E) S') 0 0 (eA E)
def Cx (p : Program) (s : State) (m : MethodId) (args : Array Value) (meth : Method) (c : Code) (E : Ev) (cc : ByteArray) (nL : Nat) (own : String) (ret : Option FieldType) : Prop :=
  p.tables.exec = Jvm.exec ∧ c.code = cc ∧ c.maxLocals = nL ∧ s.vm.findClass own = some m.cls ∧ (∀ w ∈ gW, w.before args s = true) ∧ meth.sig.returnType = ret ∧ meth.locks = false ∧ KN E s ∧ ZN E s s.heap
theorem KN.warm {E : Ev} {s U : State} (hW : s.WarmedH U.vm) (h : KN E s) : KN E U :=
  ⟨va_K.moved hW.alike h.1, fun w hw => by
    have hz := h.2 w hw
    simp only [gN, List.mem_cons, List.not_mem_nil, or_false] at hw
    rcases hw with rfl | rfl | rfl | rfl | rfl | rfl | rfl <;> exact va_Nw.warmM hW hz⟩
theorem ZN.moved {E : Ev} {u U : State} {H : Heap} (hvm : u.vm.Alike U.vm) (h : ZN E u H) : ZN E U H := ⟨⟨h.1.1.moved hvm, h.1.2.moved hvm⟩, h.2.1.moved hvm, h.2.2.moved hvm⟩
theorem ZN.kept {E : Ev} {U : State} {H H1 : Heap} (h : ZN E U H) (hq : ∀ a : Nat, a < H.size → ¬ (eA E) a → H1[a]? = H[a]?) : ZN E U H1 := ⟨⟨h.1.1.kept hq, h.1.2.kept hq⟩, h.2.1.kept hq, h.2.2.kept hq⟩
theorem ofWF {l : Launch} {y : MethodName} {ws ws' : List Cond} {rm : Room} {Pc : Array Value → State → Prop} {Qc : Array Value → State → Outcome → State → Prop} {mc ms : Nat} {free : Addr → Prop} {cc : ByteArray} {maxL : Nat} {ret : Option FieldType}
    (hy : plainFor y = true) (hw : ws = Cond.code y cc maxL ret :: ws')
    (body : ∀ p e s m args below meth c s₁, BodyLoose p l y (headSpec ws rm) cc maxL ret e s m args below meth c s₁ → c.maxLocals = maxL → Pc args s →
      W p l e (headSpec ws rm).room s m args below meth c s.heap [] 0 0 (MQ below Qc args s mc ms free) (entryFrame m args maxL)) : Met l y ws rm Pc Qc mc ms free := by
  refine MetFree.of_bodySF (code := cc) (maxLocals := maxL) (ret := ret) hy ?_ ?_
  · intro args s m h hn
    obtain ⟨meth, c, h1, h2, h3, h4, h5, h6, -, -⟩ := Cond.code_spec hn (atoms_spec (ws := ws) h _ (by rw [hw]; exact List.mem_cons_self))
    exact ⟨meth, c, h1, h2, h3, h4, h5, h6⟩
  · intro p e s m args below meth c s₁ B hml hP _
    have hh0 : s₁.heap = s.heap := by rw [B.state]; rfl
    obtain ⟨t, a1, o, b1, b2, b3⟩ := body p e s m args below meth c s₁ B hml hP s₁ hh0 (Stand.of_body B)
    exact ⟨t, o, a1, b1, b2, ⟨b3.1, b3.2⟩⟩
section BASE
variable {p : Program} {l : Launch} {e : Env} {R : Room} {s : State} {m : MethodId} {args : Array Value} {below : List Frame} {meth : Method} {c : Code} {H : Heap} {locs : List Loc} {Q : State → Prop} {E : Ev} {w : St → va_W} {S S' : St} {cc : ByteArray} {nL pc : Nat} {own : String} {ret : Option FieldType} {ls : Array Slot} {rest : List Value}
theorem ofBlock {w : Ev → St → va_W} {y : MethodName} {h : Nat} {av : Ev → List Value} {rv : Ev → Option Value} (hy : plainFor y = true) (hsz : ∀ E, (lg_sl (av E)).length ≤ nL)
    (body : ∀ (E : Ev) (p : Program) (e : Env) (s : State) (m : MethodId) (args : Array Value) (below : List Frame) (meth : Method) (c : Code) (ls : Array Slot), Cx p s m args meth c E cc nL y.cls ret → Wd E (w E) s.heap S s.heap [] → lv_has ls nL (lv_args 0 (av E)) →
      W p l e (rmh h) s m args below meth c s.heap [] 0 0 (MQ below (QW E (w E) (rv E) S') args s 0 0 (eA E)) (F0 m 0 ls [])) : Ct l w y cc nL ret h av S rv S' := by
  intro E
  refine ofWF (cc := cc) (maxL := nL) (ret := ret) hy rfl ?_
  intro p e s m args below meth c s₁ B hml hv
  obtain ⟨rfl, hP, hD, hK, hZ⟩ := hv
  have hts := atoms_spec (ws := .code y cc nL ret :: gW) B.pre
  have hl := lv_entry (av E) (n := nL) (hsz E)
  rw [lg_entry_eq]
  exact body E p e s m _ below meth c _ ⟨B.exec, B.bytes, hml, findClass_of_methodNamed B.named, fun w hw => hts w (List.mem_cons_of_mem _ hw), B.returns, B.notSynchronized, hK, hZ⟩ ⟨hP, hD, va_S.rf⟩ hl
theorem QW_of {rv : Option Value} (C : Cx p s m args meth c E cc nL own ret) (hw : Wd E w s.heap S H locs) : ∀ t : State, t.heap = H → s.WarmedH t.vm → QW E w rv S args s (.returned rv) t := fun t ht hW =>
  ⟨rfl, ⟨by rw [ht]; exact hw.1, hw.2.1, KN.warm hW C.2.2.2.2.2.2.2.1, by rw [ht]; exact (C.2.2.2.2.2.2.2.2.moved hW.alike).kept hw.2.2.2.1⟩, hw.2.2.F ht⟩
theorem ret_i {r x : Int32} (C : Cx p s m args meth c E cc nL own (some .int)) (hw : Wd E w s.heap S H locs) (hdg : decode cc pc = .ok (.ireturn, 1)) (hf : (some x : Option Int32) = some r) :
    W p l e R s m args below meth c H locs 0 0 (MQ below (QW E w (some (.int r)) S) args s 0 0 (eA E)) (F0 m pc ls [.int x]) := by
  cases hf
  have hlocks := C.2.2.2.2.2.2.1
  exact W.iret C.1 C.2.1 C.2.2.2.2.2.1 (QW_of C hw) hw.2.2.2.2 hdg
theorem ret_iS {r x : Int32} {S1 : St} (C : Cx p s m args meth c E cc nL own (some .int)) (hw : Wd E w s.heap S H locs) (hdg : decode cc pc = .ok (.ireturn, 1)) (hf : (some (x, S) : Option (Int32 × St)) = some (r, S1)) :
    W p l e R s m args below meth c H locs 0 0 (MQ below (QW E w (some (.int r)) S1) args s 0 0 (eA E)) (F0 m pc ls [.int x]) := by
  cases hf
  have hlocks := C.2.2.2.2.2.2.1
  exact W.iret C.1 C.2.1 C.2.2.2.2.2.1 (QW_of C hw) hw.2.2.2.2 hdg
theorem ret_z {r x : Int32} (hn : narrow .boolean (.int x) = .int x) (C : Cx p s m args meth c E cc nL own (some .boolean)) (hw : Wd E w s.heap S H locs) (hdg : decode cc pc = .ok (.ireturn, 1)) (hf : (some x : Option Int32) = some r) :
    W p l e R s m args below meth c H locs 0 0 (MQ below (QW E w (some (.int r)) S) args s 0 0 (eA E)) (F0 m pc ls [.int x]) := by
  cases hf
  have hlocks := C.2.2.2.2.2.2.1
  exact W.zret C.1 C.2.1 C.2.2.2.2.2.1 hn (QW_of C hw) hw.2.2.2.2 hdg
theorem ret_zS {r x : Int32} {S1 : St} (hn : narrow .boolean (.int x) = .int x) (C : Cx p s m args meth c E cc nL own (some .boolean)) (hw : Wd E w s.heap S H locs) (hdg : decode cc pc = .ok (.ireturn, 1)) (hf : (some (x, S) : Option (Int32 × St)) = some (r, S1)) :
    W p l e R s m args below meth c H locs 0 0 (MQ below (QW E w (some (.int r)) S1) args s 0 0 (eA E)) (F0 m pc ls [.int x]) := by
  cases hf
  have hlocks := C.2.2.2.2.2.2.1
  exact W.zret C.1 C.2.1 C.2.2.2.2.2.1 hn (QW_of C hw) hw.2.2.2.2 hdg
theorem ret_l {r x : Int64} (C : Cx p s m args meth c E cc nL own (some .long)) (hw : Wd E w s.heap S H locs) (hdg : decode cc pc = .ok (.lreturn, 1)) (hf : (some x : Option Int64) = some r) :
    W p l e R s m args below meth c H locs 0 0 (MQ below (QW E w (some (.long r)) S) args s 0 0 (eA E)) (F0 m pc ls [.long x]) := by
  cases hf
  have hlocks := C.2.2.2.2.2.2.1
  exact W.lret C.1 C.2.1 C.2.2.2.2.2.1 (QW_of C hw) hw.2.2.2.2 hdg
theorem ret_vS {S1 : St} (C : Cx p s m args meth c E cc nL own none) (hw : Wd E w s.heap S H locs) (hdg : decode cc pc = .ok (.return_, 1)) (hf : (some S : Option St) = some S1) :
    W p l e R s m args below meth c H locs 0 0 (MQ below (QW E w none S1) args s 0 0 (eA E)) (F0 m pc ls []) := by
  cases hf
  have hlocks := C.2.2.2.2.2.2.1
  exact W.vret C.1 C.2.1 C.2.2.2.2.2.1 (QW_of C hw) hw.2.2.2.2 hdg
theorem ret_v {r : Unit} (C : Cx p s m args meth c E cc nL own none) (hw : Wd E w s.heap S H locs) (hdg : decode cc pc = .ok (.return_, 1)) (hf : (some () : Option Unit) = some r) :
    W p l e R s m args below meth c H locs 0 0 (MQ below (QW E w none S) args s 0 0 (eA E)) (F0 m pc ls []) := by
  cases hf
  have hlocks := C.2.2.2.2.2.2.1
  exact W.vret C.1 C.2.1 C.2.2.2.2.2.1 (QW_of C hw) hw.2.2.2.2 hdg
theorem ret_a {r x : Nat} (C : Cx p s m args meth c E cc nL own (some (.array .int))) (hw : Wd E w s.heap S H locs) (hdg : decode cc pc = .ok (.areturn, 1)) (hf : (some x : Option Nat) = some r) :
    W p l e R s m args below meth c H locs 0 0 (MQ below (QW E w (some (.ref (ea E r))) S) args s 0 0 (eA E)) (F0 m pc ls [.ref (ea E x)]) := by
  cases hf
  have hlocks := C.2.2.2.2.2.2.1
  exact W.aret C.1 C.2.1 C.2.2.2.2.2.1 (Or.inr ⟨_, rfl⟩) (Or.inr ⟨_, rfl⟩) (QW_of C hw) hw.2.2.2.2 hdg
/-- naming of a computed number on the stack -/
theorem nm_i {ρ : Type} {x : Int32} {g : Int32 → Option ρ} {r : Option ρ} (hf : nm x g = r) (k : ∀ y : Int32, g y = r → W p l e R s m args below meth c H locs 0 0 Q (F0 m pc ls (.int y :: rest))) : W p l e R s m args below meth c H locs 0 0 Q (F0 m pc ls (.int x :: rest)) := k x hf
theorem nm_l {ρ : Type} {x : Int64} {g : Int64 → Option ρ} {r : Option ρ} (hf : nm x g = r) (k : ∀ y : Int64, g y = r → W p l e R s m args below meth c H locs 0 0 Q (F0 m pc ls (.long y :: rest))) : W p l e R s m args below meth c H locs 0 0 Q (F0 m pc ls (.long x :: rest)) := k x hf
theorem nm_S {ρ : Type} {S : St} {g : St → Option ρ} {r : Option ρ} {fr : JFrame} (hf : nm S g = r) (hw : Wd E w s.heap S H locs) (k : ∀ S : St, g S = r → Wd E w s.heap S H locs → W p l e R s m args below meth c H locs 0 0 Q fr) : W p l e R s m args below meth c H locs 0 0 Q fr := k S hf hw
theorem nme {α ρ : Type} {x : α} {g : α → Option ρ} {r : Option ρ} (hf : nm x g = r) : ∃ y, x = y ∧ g y = r := ⟨x, rfl, hf⟩
theorem after_call {rv : Option Value} {st0 : List Value} {a : Array Value} (C : Cx p s m args meth c E cc nL own ret) (hw : Wd E w s.heap S H locs) (hr : va_Run p l e R s m args below meth c H locs 0 0 0 0 (F0 m pc ls st0) rest (QW E w rv S' a) (eA E))
    (kk : ∀ (H1 : Heap) (locs1 : List Loc), Wd E w s.heap S' H1 locs1 → W p l e R s m args below meth c H1 locs1 0 0 Q (F0 m (pc + 3) ls (rv.toList ++ rest))) : W p l e R s m args below meth c H locs 0 0 Q (F0 m pc ls st0) := by
  intro T hT X
  obtain ⟨v, st₀, t, T', L, h0, X', hL, e1, e2, ⟨hv, hI, hz, hk⟩, st⟩ := hr T hT X
  cases hv
  rw [h0] at hz hk
  have hS := hw.2.2
  obtain ⟨t2, a1, b1⟩ := kk T'.heap (locs ++ L) ⟨by rw [e1]; exact hI.1, hI.2.1, Nat.le_trans hS.1 (by rw [e1]; exact hz), fun q h1 h2 => by rw [e1, hk q (Nat.lt_of_lt_of_le h1 hS.1) h2]; exact hS.2.1 q h1 h2, fun q hq => by
      rcases List.mem_append.mp hq with h | h
      · exact hS.2.2 q h
      · exact hL q h⟩ T' rfl X'
  exact ⟨t2, st t2 a1, b1⟩
theorem IW_blind {av : List Value} : FrameBlind (va_Pc av (IW E w S)) := by
  intro a U g mk h
  obtain ⟨h1, h2, h3, h4, h5⟩ := h
  exact ⟨h1, h2, h3, ⟨va_K.moved (u := U) (U := U.calling g mk a) (Vm.Alike.refl U.vm) h4.1, fun w hw => va_Nw.same (u := U) (U := U.calling g mk a) (by revert w; decide +kernel) rfl (h4.2 w hw)⟩, ZN.moved (u := U) (U := U.calling g mk a) (Vm.Alike.refl U.vm) h5⟩
theorem IW_pre {av : List Value} (C : Cx p s m args meth c E cc nL own ret) (hw : Wd E w s.heap S H locs) : ∀ U : State, U.heap = H → s.WarmedH U.vm → va_Pc av (IW E w S) av.toArray U := fun U hU hW =>
  ⟨rfl, by rw [hU]; exact hw.1, hw.2.1, KN.warm hW C.2.2.2.2.2.2.2.1, by rw [hU]; exact (C.2.2.2.2.2.2.2.2.moved hW.alike).kept hw.2.2.2.1⟩
theorem gW_GoodIn {c0 : Cond} {y : MethodName} {cy : ByteArray} {n : Nat} {r : Option FieldType} (h : .code y cy n r ∈ gW) : GoodIn gW (.code y cy n r :: gW) := by
  intro w hw
  rcases List.mem_cons.mp hw with rfl | hw
  · exact ⟨h, gW_ok _ h⟩
  · exact ⟨hw, gW_ok _ hw⟩
/-- what a call by a virtual or special link needs of the tables -/
def LkV (own : String) (idx : Nat) (y : MethodName) (cy : ByteArray) (nLy : Nat) (r : Option FieldType) (n : Nat) : Prop :=
  (.code y cy nLy r ∈ gW ∧ .initialized y.cls ∈ gW ∧ .methodLink own idx y ∈ gW ∧ .instanceMethod y ∈ gW ∧ .selects y.cls y y ∈ gW) ∧ (y.cls ≠ "java/lang/invoke/MethodHandle" ∧ y.cls ≠ "java/lang/invoke/VarHandle" ∧ (parseMethodDescriptor y.desc).map (fun d => d.parameters.length) = some n)
def LkS (own : String) (idx : Nat) (y : MethodName) (cy : ByteArray) (nLy : Nat) (r : Option FieldType) (n : Nat) : Prop :=
  (.code y cy nLy r ∈ gW ∧ .initialized y.cls ∈ gW ∧ .methodLink own idx y ∈ gW ∧ .static y ∈ gW) ∧ (y.cls ≠ "java/lang/invoke/MethodHandle" ∧ y.cls ≠ "java/lang/invoke/VarHandle" ∧ (parseMethodDescriptor y.desc).map (fun d => d.parameters.length) = some n)
def LkN (own : String) (idx : Nat) (y : MethodName) (cy : ByteArray) (nLy : Nat) (r : Option FieldType) (n : Nat) : Prop :=
  (.code y cy nLy r ∈ gW ∧ .initialized y.cls ∈ gW ∧ .methodLinkNest own idx y y.cls ∈ gN ∧ .static y ∈ gW) ∧ (y.cls ≠ "java/lang/invoke/MethodHandle" ∧ y.cls ≠ "java/lang/invoke/VarHandle" ∧ (parseMethodDescriptor y.desc).map (fun d => d.parameters.length) = some n)
theorem rmh_ok {h h' nLy : Nat} (hh : h < h') (hn : nLy ≤ 21) : (rmh h).frames + 1 ≤ (rmh h').frames ∧ 8 + (nLy + 11) + (rmh h).locals ≤ (rmh h').locals := by
  simp only [rmh]; omega
theorem inv_V {w : Ev → St → va_W} {y : MethodName} {cy : ByteArray} {nLy idx n h h' ci q0 b : Nat} {r : Option FieldType} {As : List Value} {fs : List Value} {qc : vw_C} {rv : Ev → Option Value} (Lk : LkV own idx y cy nLy r n) (C : Cx p s m args meth c E cc nL own ret) (hw : Wd E (w E) s.heap S H locs)
    (he : (w E S)[q0]? = some (b, .inr (ci, fs))) (hc : gCl[ci]? = some qc) (hq : qc.1 = y.cls)
    (hM : Ct l w y cy nLy r h (fun E' => .ref (ea E' q0) :: As) S rv S') (hb : b = ea E q0) (hl : ls.size = nL) (hdg : decode cc pc = .ok (.invokevirtual idx, 3)) (hn : As.length = n) (hh : h < h') (hny : nLy ≤ 21) (hcat : (rest.map fun v => v.category).sum ≤ 8) {st0 : List Value} (hst : st0 = As.reverse ++ .ref b :: rest)
    (kk : ∀ (H1 : Heap) (locs1 : List Loc), Wd E (w E) s.heap S' H1 locs1 → W p l e (rmh h') s m args below meth c H1 locs1 0 0 Q (F0 m (pc + 3) ls ((rv E).toList ++ rest))) : W p l e (rmh h') s m args below meth c H locs 0 0 Q (F0 m pc ls st0) := by
  subst hb
  obtain ⟨⟨k1, k2, k3, k4, k5⟩, kd⟩ := Lk
  have hts := C.2.2.2.2.1
  refine after_call C hw (va_runV (As := As) (rest := rest) (C := y.cls) (n := n) (Ts := gW) ⟨C.1, C.2.1, C.2.2.1, C.2.2.2.1, hts⟩ (hM E) ⟨callB_of n hts (gW_GoodIn (c0 := .code y cy nLy r) k1) rfl rfl rfl (hts _ k2) (hts _ k3) kd (rmh_ok hh hny), hts _ k4, hts _ k5⟩ ⟨IW_blind, ?_, IW_pre C hw⟩ rfl hn hl hst (lv_room hcat) hdg ⟨Nat.le_refl _, Nat.le_refl _⟩) kk
  obtain ⟨cell, h1, h2, h3⟩ := va_recv C.2.2.2.2.2.2.2.1.1 hw.1 hc he
  exact ⟨cell, h1, h2, by rw [← hq]; exact h3⟩
theorem inv_S {w : Ev → St → va_W} {y : MethodName} {cy : ByteArray} {nLy idx n h h' : Nat} {r : Option FieldType} {As : List Value} {rv : Ev → Option Value} (Lk : LkS own idx y cy nLy r n) (C : Cx p s m args meth c E cc nL own ret) (hw : Wd E (w E) s.heap S H locs)
    (hM : Ct l w y cy nLy r h (fun _ => As) S rv S') (hl : ls.size = nL) (hdg : decode cc pc = .ok (.invokestatic idx, 3)) (hn : As.length = n) (hh : h < h') (hny : nLy ≤ 21) (hcat : (rest.map fun v => v.category).sum ≤ 8) {st0 : List Value} (hst : st0 = As.reverse ++ rest)
    (kk : ∀ (H1 : Heap) (locs1 : List Loc), Wd E (w E) s.heap S' H1 locs1 → W p l e (rmh h') s m args below meth c H1 locs1 0 0 Q (F0 m (pc + 3) ls ((rv E).toList ++ rest))) : W p l e (rmh h') s m args below meth c H locs 0 0 Q (F0 m pc ls st0) := by
  obtain ⟨⟨k1, k2, k3, k4⟩, kd⟩ := Lk
  have hts := C.2.2.2.2.1
  exact after_call C hw (va_runS (As := As) (rest := rest) (n := n) (Ts := gW) ⟨C.1, C.2.1, C.2.2.1, C.2.2.2.1, hts⟩ (hM E) ⟨callB_of n hts (gW_GoodIn (c0 := .code y cy nLy r) k1) rfl rfl rfl (hts _ k2) (hts _ k3) kd (rmh_ok hh hny), hts _ k4⟩ ⟨IW_blind, IW_pre C hw⟩ rfl hn hl hst (lv_room hcat) hdg ⟨Nat.le_refl _, Nat.le_refl _⟩) kk
/-- a static method with a row among its arguments -/
theorem inv_SA {w : Ev → St → va_W} {y : MethodName} {cy : ByteArray} {nLy idx n h h' : Nat} {r : Option FieldType} {As : Ev → List Value} {rv : Ev → Option Value} (Lk : LkS own idx y cy nLy r n) (C : Cx p s m args meth c E cc nL own ret) (hw : Wd E (w E) s.heap S H locs)
    (hM : Ct l w y cy nLy r h As S rv S') (hl : ls.size = nL) (hdg : decode cc pc = .ok (.invokestatic idx, 3)) (hn : (As E).length = n) (hh : h < h') (hny : nLy ≤ 21) (hcat : (rest.map fun v => v.category).sum ≤ 8) {st0 : List Value} (hst : st0 = (As E).reverse ++ rest)
    (kk : ∀ (H1 : Heap) (locs1 : List Loc), Wd E (w E) s.heap S' H1 locs1 → W p l e (rmh h') s m args below meth c H1 locs1 0 0 Q (F0 m (pc + 3) ls ((rv E).toList ++ rest))) : W p l e (rmh h') s m args below meth c H locs 0 0 Q (F0 m pc ls st0) := by
  obtain ⟨⟨k1, k2, k3, k4⟩, kd⟩ := Lk
  have hts := C.2.2.2.2.1
  exact after_call C hw (va_runS (As := As E) (rest := rest) (n := n) (Ts := gW) ⟨C.1, C.2.1, C.2.2.1, C.2.2.2.1, hts⟩ (hM E) ⟨callB_of n hts (gW_GoodIn (c0 := .code y cy nLy r) k1) rfl rfl rfl (hts _ k2) (hts _ k3) kd (rmh_ok hh hny), hts _ k4⟩ ⟨IW_blind, IW_pre C hw⟩ rfl hn hl hst (lv_room hcat) hdg ⟨Nat.le_refl _, Nat.le_refl _⟩) kk
theorem inv_VA {w : Ev → St → va_W} {y : MethodName} {cy : ByteArray} {nLy idx n h h' ci q0 b : Nat} {r : Option FieldType} {As : Ev → List Value} {fs : List Value} {qc : vw_C} {rv : Ev → Option Value} (Lk : LkV own idx y cy nLy r n) (C : Cx p s m args meth c E cc nL own ret) (hw : Wd E (w E) s.heap S H locs)
    (he : (w E S)[q0]? = some (b, .inr (ci, fs))) (hc : gCl[ci]? = some qc) (hq : qc.1 = y.cls)
    (hM : Ct l w y cy nLy r h (fun E' => .ref (ea E' q0) :: As E') S rv S') (hb : b = ea E q0) (hl : ls.size = nL) (hdg : decode cc pc = .ok (.invokevirtual idx, 3)) (hn : (As E).length = n) (hh : h < h') (hny : nLy ≤ 21) (hcat : (rest.map fun v => v.category).sum ≤ 8) {st0 : List Value} (hst : st0 = (As E).reverse ++ .ref b :: rest)
    (kk : ∀ (H1 : Heap) (locs1 : List Loc), Wd E (w E) s.heap S' H1 locs1 → W p l e (rmh h') s m args below meth c H1 locs1 0 0 Q (F0 m (pc + 3) ls ((rv E).toList ++ rest))) : W p l e (rmh h') s m args below meth c H locs 0 0 Q (F0 m pc ls st0) := by
  subst hb
  obtain ⟨⟨k1, k2, k3, k4, k5⟩, kd⟩ := Lk
  have hts := C.2.2.2.2.1
  refine after_call C hw (va_runV (As := As E) (rest := rest) (C := y.cls) (n := n) (Ts := gW) ⟨C.1, C.2.1, C.2.2.1, C.2.2.2.1, hts⟩ (hM E) ⟨callB_of n hts (gW_GoodIn (c0 := .code y cy nLy r) k1) rfl rfl rfl (hts _ k2) (hts _ k3) kd (rmh_ok hh hny), hts _ k4, hts _ k5⟩ ⟨IW_blind, ?_, IW_pre C hw⟩ rfl hn hl hst (lv_room hcat) hdg ⟨Nat.le_refl _, Nat.le_refl _⟩) kk
  obtain ⟨cell, h1, h2, h3⟩ := va_recv C.2.2.2.2.2.2.2.1.1 hw.1 hc he
  exact ⟨cell, h1, h2, by rw [← hq]; exact h3⟩
theorem inv_N {w : Ev → St → va_W} {y : MethodName} {cy : ByteArray} {nLy idx n h h' : Nat} {r : Option FieldType} {As : List Value} {rv : Ev → Option Value} (Lk : LkN own idx y cy nLy r n) (C : Cx p s m args meth c E cc nL own ret) (hw : Wd E (w E) s.heap S H locs)
    (hM : Ct l w y cy nLy r h (fun _ => As) S rv S') (hl : ls.size = nL) (hdg : decode cc pc = .ok (.invokestatic idx, 3)) (hn : As.length = n) (hh : h < h') (hny : nLy ≤ 21) (hcat : (rest.map fun v => v.category).sum ≤ 8) {st0 : List Value} (hst : st0 = As.reverse ++ rest)
    (kk : ∀ (H1 : Heap) (locs1 : List Loc), Wd E (w E) s.heap S' H1 locs1 → W p l e (rmh h') s m args below meth c H1 locs1 0 0 Q (F0 m (pc + 3) ls ((rv E).toList ++ rest))) : W p l e (rmh h') s m args below meth c H locs 0 0 Q (F0 m pc ls st0) := by
  obtain ⟨⟨k1, k2, k3, k4⟩, kd⟩ := Lk
  have hts := C.2.2.2.2.1
  exact after_call C hw (va_runSN (As := As) (rest := rest) (n := n) (Ts := gW) ⟨C.1, C.2.1, C.2.2.1, C.2.2.2.1, hts⟩ (hM E) ⟨va_cnB n hts (gW_GoodIn (c0 := .code y cy nLy r) k1) rfl rfl rfl (C.2.2.2.2.2.2.2.1.2 _ k3) (hts _ k2) kd (rmh_ok hh hny), hts _ k4, trivial⟩ ⟨IW_blind, IW_pre C hw⟩ rfl hn hl hst (lv_room hcat) hdg ⟨Nat.le_refl _, Nat.le_refl _⟩) kk
theorem inv_Vi {w : Ev → St → va_W} {y : MethodName} {cy : ByteArray} {nLy idx n h h' ci q0 b : Nat} {r : Option FieldType} {As : List Value} {fs : List Value} {qc : vw_C} {rr : Int32} (Lk : LkV own idx y cy nLy r n) (C : Cx p s m args meth c E cc nL own ret) (hw : Wd E (w E) s.heap S H locs)
    (he : (w E S)[q0]? = some (b, .inr (ci, fs))) (hc : gCl[ci]? = some qc) (hq : qc.1 = y.cls)
    (hM : Ct l w y cy nLy r h (fun E' => .ref (ea E' q0) :: As) S (fun _ => some (.int rr)) S') (hb : b = ea E q0) (hl : ls.size = nL) (hdg : decode cc pc = .ok (.invokevirtual idx, 3)) (hn : As.length = n) (hh : h < h') (hny : nLy ≤ 21) (hcat : (rest.map fun v => v.category).sum ≤ 8) {st0 : List Value} (hst : st0 = As.reverse ++ .ref b :: rest)
    (kk : ∀ (H1 : Heap) (locs1 : List Loc), Wd E (w E) s.heap S' H1 locs1 → W p l e (rmh h') s m args below meth c H1 locs1 0 0 Q (F0 m (pc + 3) ls (.int rr :: rest))) : W p l e (rmh h') s m args below meth c H locs 0 0 Q (F0 m pc ls st0) := inv_V Lk C hw he hc hq hM hb hl hdg hn hh hny hcat hst kk
theorem inv_Vl {w : Ev → St → va_W} {y : MethodName} {cy : ByteArray} {nLy idx n h h' ci q0 b : Nat} {r : Option FieldType} {As : List Value} {fs : List Value} {qc : vw_C} {rr : Int64} (Lk : LkV own idx y cy nLy r n) (C : Cx p s m args meth c E cc nL own ret) (hw : Wd E (w E) s.heap S H locs)
    (he : (w E S)[q0]? = some (b, .inr (ci, fs))) (hc : gCl[ci]? = some qc) (hq : qc.1 = y.cls)
    (hM : Ct l w y cy nLy r h (fun E' => .ref (ea E' q0) :: As) S (fun _ => some (.long rr)) S') (hb : b = ea E q0) (hl : ls.size = nL) (hdg : decode cc pc = .ok (.invokevirtual idx, 3)) (hn : As.length = n) (hh : h < h') (hny : nLy ≤ 21) (hcat : (rest.map fun v => v.category).sum ≤ 8) {st0 : List Value} (hst : st0 = As.reverse ++ .ref b :: rest)
    (kk : ∀ (H1 : Heap) (locs1 : List Loc), Wd E (w E) s.heap S' H1 locs1 → W p l e (rmh h') s m args below meth c H1 locs1 0 0 Q (F0 m (pc + 3) ls (.long rr :: rest))) : W p l e (rmh h') s m args below meth c H locs 0 0 Q (F0 m pc ls st0) := inv_V Lk C hw he hc hq hM hb hl hdg hn hh hny hcat hst kk
theorem inv_Vv {w : Ev → St → va_W} {y : MethodName} {cy : ByteArray} {nLy idx n h h' ci q0 b : Nat} {r : Option FieldType} {As : List Value} {fs : List Value} {qc : vw_C} (Lk : LkV own idx y cy nLy r n) (C : Cx p s m args meth c E cc nL own ret) (hw : Wd E (w E) s.heap S H locs)
    (he : (w E S)[q0]? = some (b, .inr (ci, fs))) (hc : gCl[ci]? = some qc) (hq : qc.1 = y.cls)
    (hM : Ct l w y cy nLy r h (fun E' => .ref (ea E' q0) :: As) S (fun _ => none) S') (hb : b = ea E q0) (hl : ls.size = nL) (hdg : decode cc pc = .ok (.invokevirtual idx, 3)) (hn : As.length = n) (hh : h < h') (hny : nLy ≤ 21) (hcat : (rest.map fun v => v.category).sum ≤ 8) {st0 : List Value} (hst : st0 = As.reverse ++ .ref b :: rest)
    (kk : ∀ (H1 : Heap) (locs1 : List Loc), Wd E (w E) s.heap S' H1 locs1 → W p l e (rmh h') s m args below meth c H1 locs1 0 0 Q (F0 m (pc + 3) ls (rest))) : W p l e (rmh h') s m args below meth c H locs 0 0 Q (F0 m pc ls st0) := inv_V Lk C hw he hc hq hM hb hl hdg hn hh hny hcat hst kk
theorem inv_Va {w : Ev → St → va_W} {y : MethodName} {cy : ByteArray} {nLy idx n h h' ci q0 b : Nat} {r : Option FieldType} {As : List Value} {fs : List Value} {qc : vw_C} {rr : Nat} (Lk : LkV own idx y cy nLy r n) (C : Cx p s m args meth c E cc nL own ret) (hw : Wd E (w E) s.heap S H locs)
    (he : (w E S)[q0]? = some (b, .inr (ci, fs))) (hc : gCl[ci]? = some qc) (hq : qc.1 = y.cls)
    (hM : Ct l w y cy nLy r h (fun E' => .ref (ea E' q0) :: As) S (fun E => some (.ref (ea E rr))) S') (hb : b = ea E q0) (hl : ls.size = nL) (hdg : decode cc pc = .ok (.invokevirtual idx, 3)) (hn : As.length = n) (hh : h < h') (hny : nLy ≤ 21) (hcat : (rest.map fun v => v.category).sum ≤ 8) {st0 : List Value} (hst : st0 = As.reverse ++ .ref b :: rest)
    (kk : ∀ (H1 : Heap) (locs1 : List Loc), Wd E (w E) s.heap S' H1 locs1 → W p l e (rmh h') s m args below meth c H1 locs1 0 0 Q (F0 m (pc + 3) ls (.ref (ea E rr) :: rest))) : W p l e (rmh h') s m args below meth c H locs 0 0 Q (F0 m pc ls st0) := inv_V Lk C hw he hc hq hM hb hl hdg hn hh hny hcat hst kk
theorem inv_VAi {w : Ev → St → va_W} {y : MethodName} {cy : ByteArray} {nLy idx n h h' ci q0 b : Nat} {r : Option FieldType} {As : Ev → List Value} {fs : List Value} {qc : vw_C} {rr : Int32} (Lk : LkV own idx y cy nLy r n) (C : Cx p s m args meth c E cc nL own ret) (hw : Wd E (w E) s.heap S H locs)
    (he : (w E S)[q0]? = some (b, .inr (ci, fs))) (hc : gCl[ci]? = some qc) (hq : qc.1 = y.cls)
    (hM : Ct l w y cy nLy r h (fun E' => .ref (ea E' q0) :: As E') S (fun _ => some (.int rr)) S') (hb : b = ea E q0) (hl : ls.size = nL) (hdg : decode cc pc = .ok (.invokevirtual idx, 3)) (hn : (As E).length = n) (hh : h < h') (hny : nLy ≤ 21) (hcat : (rest.map fun v => v.category).sum ≤ 8) {st0 : List Value} (hst : st0 = (As E).reverse ++ .ref b :: rest)
    (kk : ∀ (H1 : Heap) (locs1 : List Loc), Wd E (w E) s.heap S' H1 locs1 → W p l e (rmh h') s m args below meth c H1 locs1 0 0 Q (F0 m (pc + 3) ls (.int rr :: rest))) : W p l e (rmh h') s m args below meth c H locs 0 0 Q (F0 m pc ls st0) := inv_VA Lk C hw he hc hq hM hb hl hdg hn hh hny hcat hst kk
theorem inv_VAl {w : Ev → St → va_W} {y : MethodName} {cy : ByteArray} {nLy idx n h h' ci q0 b : Nat} {r : Option FieldType} {As : Ev → List Value} {fs : List Value} {qc : vw_C} {rr : Int64} (Lk : LkV own idx y cy nLy r n) (C : Cx p s m args meth c E cc nL own ret) (hw : Wd E (w E) s.heap S H locs)
    (he : (w E S)[q0]? = some (b, .inr (ci, fs))) (hc : gCl[ci]? = some qc) (hq : qc.1 = y.cls)
    (hM : Ct l w y cy nLy r h (fun E' => .ref (ea E' q0) :: As E') S (fun _ => some (.long rr)) S') (hb : b = ea E q0) (hl : ls.size = nL) (hdg : decode cc pc = .ok (.invokevirtual idx, 3)) (hn : (As E).length = n) (hh : h < h') (hny : nLy ≤ 21) (hcat : (rest.map fun v => v.category).sum ≤ 8) {st0 : List Value} (hst : st0 = (As E).reverse ++ .ref b :: rest)
    (kk : ∀ (H1 : Heap) (locs1 : List Loc), Wd E (w E) s.heap S' H1 locs1 → W p l e (rmh h') s m args below meth c H1 locs1 0 0 Q (F0 m (pc + 3) ls (.long rr :: rest))) : W p l e (rmh h') s m args below meth c H locs 0 0 Q (F0 m pc ls st0) := inv_VA Lk C hw he hc hq hM hb hl hdg hn hh hny hcat hst kk
theorem inv_VAv {w : Ev → St → va_W} {y : MethodName} {cy : ByteArray} {nLy idx n h h' ci q0 b : Nat} {r : Option FieldType} {As : Ev → List Value} {fs : List Value} {qc : vw_C} (Lk : LkV own idx y cy nLy r n) (C : Cx p s m args meth c E cc nL own ret) (hw : Wd E (w E) s.heap S H locs)
    (he : (w E S)[q0]? = some (b, .inr (ci, fs))) (hc : gCl[ci]? = some qc) (hq : qc.1 = y.cls)
    (hM : Ct l w y cy nLy r h (fun E' => .ref (ea E' q0) :: As E') S (fun _ => none) S') (hb : b = ea E q0) (hl : ls.size = nL) (hdg : decode cc pc = .ok (.invokevirtual idx, 3)) (hn : (As E).length = n) (hh : h < h') (hny : nLy ≤ 21) (hcat : (rest.map fun v => v.category).sum ≤ 8) {st0 : List Value} (hst : st0 = (As E).reverse ++ .ref b :: rest)
    (kk : ∀ (H1 : Heap) (locs1 : List Loc), Wd E (w E) s.heap S' H1 locs1 → W p l e (rmh h') s m args below meth c H1 locs1 0 0 Q (F0 m (pc + 3) ls (rest))) : W p l e (rmh h') s m args below meth c H locs 0 0 Q (F0 m pc ls st0) := inv_VA Lk C hw he hc hq hM hb hl hdg hn hh hny hcat hst kk
theorem inv_VAa {w : Ev → St → va_W} {y : MethodName} {cy : ByteArray} {nLy idx n h h' ci q0 b : Nat} {r : Option FieldType} {As : Ev → List Value} {fs : List Value} {qc : vw_C} {rr : Nat} (Lk : LkV own idx y cy nLy r n) (C : Cx p s m args meth c E cc nL own ret) (hw : Wd E (w E) s.heap S H locs)
    (he : (w E S)[q0]? = some (b, .inr (ci, fs))) (hc : gCl[ci]? = some qc) (hq : qc.1 = y.cls)
    (hM : Ct l w y cy nLy r h (fun E' => .ref (ea E' q0) :: As E') S (fun E => some (.ref (ea E rr))) S') (hb : b = ea E q0) (hl : ls.size = nL) (hdg : decode cc pc = .ok (.invokevirtual idx, 3)) (hn : (As E).length = n) (hh : h < h') (hny : nLy ≤ 21) (hcat : (rest.map fun v => v.category).sum ≤ 8) {st0 : List Value} (hst : st0 = (As E).reverse ++ .ref b :: rest)
    (kk : ∀ (H1 : Heap) (locs1 : List Loc), Wd E (w E) s.heap S' H1 locs1 → W p l e (rmh h') s m args below meth c H1 locs1 0 0 Q (F0 m (pc + 3) ls (.ref (ea E rr) :: rest))) : W p l e (rmh h') s m args below meth c H locs 0 0 Q (F0 m pc ls st0) := inv_VA Lk C hw he hc hq hM hb hl hdg hn hh hny hcat hst kk
theorem inv_Si {w : Ev → St → va_W} {y : MethodName} {cy : ByteArray} {nLy idx n h h' : Nat} {r : Option FieldType} {As : List Value} {rr : Int32} (Lk : LkS own idx y cy nLy r n) (C : Cx p s m args meth c E cc nL own ret) (hw : Wd E (w E) s.heap S H locs)
    (hM : Ct l w y cy nLy r h (fun _ => As) S (fun _ => some (.int rr)) S') (hl : ls.size = nL) (hdg : decode cc pc = .ok (.invokestatic idx, 3)) (hn : As.length = n) (hh : h < h') (hny : nLy ≤ 21) (hcat : (rest.map fun v => v.category).sum ≤ 8) {st0 : List Value} (hst : st0 = As.reverse ++ rest)
    (kk : ∀ (H1 : Heap) (locs1 : List Loc), Wd E (w E) s.heap S' H1 locs1 → W p l e (rmh h') s m args below meth c H1 locs1 0 0 Q (F0 m (pc + 3) ls (.int rr :: rest))) : W p l e (rmh h') s m args below meth c H locs 0 0 Q (F0 m pc ls st0) := inv_S Lk C hw hM hl hdg hn hh hny hcat hst kk
theorem inv_Sl {w : Ev → St → va_W} {y : MethodName} {cy : ByteArray} {nLy idx n h h' : Nat} {r : Option FieldType} {As : List Value} {rr : Int64} (Lk : LkS own idx y cy nLy r n) (C : Cx p s m args meth c E cc nL own ret) (hw : Wd E (w E) s.heap S H locs)
    (hM : Ct l w y cy nLy r h (fun _ => As) S (fun _ => some (.long rr)) S') (hl : ls.size = nL) (hdg : decode cc pc = .ok (.invokestatic idx, 3)) (hn : As.length = n) (hh : h < h') (hny : nLy ≤ 21) (hcat : (rest.map fun v => v.category).sum ≤ 8) {st0 : List Value} (hst : st0 = As.reverse ++ rest)
    (kk : ∀ (H1 : Heap) (locs1 : List Loc), Wd E (w E) s.heap S' H1 locs1 → W p l e (rmh h') s m args below meth c H1 locs1 0 0 Q (F0 m (pc + 3) ls (.long rr :: rest))) : W p l e (rmh h') s m args below meth c H locs 0 0 Q (F0 m pc ls st0) := inv_S Lk C hw hM hl hdg hn hh hny hcat hst kk
theorem inv_Sv {w : Ev → St → va_W} {y : MethodName} {cy : ByteArray} {nLy idx n h h' : Nat} {r : Option FieldType} {As : List Value} (Lk : LkS own idx y cy nLy r n) (C : Cx p s m args meth c E cc nL own ret) (hw : Wd E (w E) s.heap S H locs)
    (hM : Ct l w y cy nLy r h (fun _ => As) S (fun _ => none) S') (hl : ls.size = nL) (hdg : decode cc pc = .ok (.invokestatic idx, 3)) (hn : As.length = n) (hh : h < h') (hny : nLy ≤ 21) (hcat : (rest.map fun v => v.category).sum ≤ 8) {st0 : List Value} (hst : st0 = As.reverse ++ rest)
    (kk : ∀ (H1 : Heap) (locs1 : List Loc), Wd E (w E) s.heap S' H1 locs1 → W p l e (rmh h') s m args below meth c H1 locs1 0 0 Q (F0 m (pc + 3) ls (rest))) : W p l e (rmh h') s m args below meth c H locs 0 0 Q (F0 m pc ls st0) := inv_S Lk C hw hM hl hdg hn hh hny hcat hst kk
theorem inv_Sa {w : Ev → St → va_W} {y : MethodName} {cy : ByteArray} {nLy idx n h h' : Nat} {r : Option FieldType} {As : List Value} {rr : Nat} (Lk : LkS own idx y cy nLy r n) (C : Cx p s m args meth c E cc nL own ret) (hw : Wd E (w E) s.heap S H locs)
    (hM : Ct l w y cy nLy r h (fun _ => As) S (fun E => some (.ref (ea E rr))) S') (hl : ls.size = nL) (hdg : decode cc pc = .ok (.invokestatic idx, 3)) (hn : As.length = n) (hh : h < h') (hny : nLy ≤ 21) (hcat : (rest.map fun v => v.category).sum ≤ 8) {st0 : List Value} (hst : st0 = As.reverse ++ rest)
    (kk : ∀ (H1 : Heap) (locs1 : List Loc), Wd E (w E) s.heap S' H1 locs1 → W p l e (rmh h') s m args below meth c H1 locs1 0 0 Q (F0 m (pc + 3) ls (.ref (ea E rr) :: rest))) : W p l e (rmh h') s m args below meth c H locs 0 0 Q (F0 m pc ls st0) := inv_S Lk C hw hM hl hdg hn hh hny hcat hst kk
theorem inv_SAi {w : Ev → St → va_W} {y : MethodName} {cy : ByteArray} {nLy idx n h h' : Nat} {r : Option FieldType} {As : Ev → List Value} {rr : Int32} (Lk : LkS own idx y cy nLy r n) (C : Cx p s m args meth c E cc nL own ret) (hw : Wd E (w E) s.heap S H locs)
    (hM : Ct l w y cy nLy r h As S (fun _ => some (.int rr)) S') (hl : ls.size = nL) (hdg : decode cc pc = .ok (.invokestatic idx, 3)) (hn : (As E).length = n) (hh : h < h') (hny : nLy ≤ 21) (hcat : (rest.map fun v => v.category).sum ≤ 8) {st0 : List Value} (hst : st0 = (As E).reverse ++ rest)
    (kk : ∀ (H1 : Heap) (locs1 : List Loc), Wd E (w E) s.heap S' H1 locs1 → W p l e (rmh h') s m args below meth c H1 locs1 0 0 Q (F0 m (pc + 3) ls (.int rr :: rest))) : W p l e (rmh h') s m args below meth c H locs 0 0 Q (F0 m pc ls st0) := inv_SA Lk C hw hM hl hdg hn hh hny hcat hst kk
theorem inv_SAl {w : Ev → St → va_W} {y : MethodName} {cy : ByteArray} {nLy idx n h h' : Nat} {r : Option FieldType} {As : Ev → List Value} {rr : Int64} (Lk : LkS own idx y cy nLy r n) (C : Cx p s m args meth c E cc nL own ret) (hw : Wd E (w E) s.heap S H locs)
    (hM : Ct l w y cy nLy r h As S (fun _ => some (.long rr)) S') (hl : ls.size = nL) (hdg : decode cc pc = .ok (.invokestatic idx, 3)) (hn : (As E).length = n) (hh : h < h') (hny : nLy ≤ 21) (hcat : (rest.map fun v => v.category).sum ≤ 8) {st0 : List Value} (hst : st0 = (As E).reverse ++ rest)
    (kk : ∀ (H1 : Heap) (locs1 : List Loc), Wd E (w E) s.heap S' H1 locs1 → W p l e (rmh h') s m args below meth c H1 locs1 0 0 Q (F0 m (pc + 3) ls (.long rr :: rest))) : W p l e (rmh h') s m args below meth c H locs 0 0 Q (F0 m pc ls st0) := inv_SA Lk C hw hM hl hdg hn hh hny hcat hst kk
theorem inv_SAv {w : Ev → St → va_W} {y : MethodName} {cy : ByteArray} {nLy idx n h h' : Nat} {r : Option FieldType} {As : Ev → List Value} (Lk : LkS own idx y cy nLy r n) (C : Cx p s m args meth c E cc nL own ret) (hw : Wd E (w E) s.heap S H locs)
    (hM : Ct l w y cy nLy r h As S (fun _ => none) S') (hl : ls.size = nL) (hdg : decode cc pc = .ok (.invokestatic idx, 3)) (hn : (As E).length = n) (hh : h < h') (hny : nLy ≤ 21) (hcat : (rest.map fun v => v.category).sum ≤ 8) {st0 : List Value} (hst : st0 = (As E).reverse ++ rest)
    (kk : ∀ (H1 : Heap) (locs1 : List Loc), Wd E (w E) s.heap S' H1 locs1 → W p l e (rmh h') s m args below meth c H1 locs1 0 0 Q (F0 m (pc + 3) ls (rest))) : W p l e (rmh h') s m args below meth c H locs 0 0 Q (F0 m pc ls st0) := inv_SA Lk C hw hM hl hdg hn hh hny hcat hst kk
theorem inv_SAa {w : Ev → St → va_W} {y : MethodName} {cy : ByteArray} {nLy idx n h h' : Nat} {r : Option FieldType} {As : Ev → List Value} {rr : Nat} (Lk : LkS own idx y cy nLy r n) (C : Cx p s m args meth c E cc nL own ret) (hw : Wd E (w E) s.heap S H locs)
    (hM : Ct l w y cy nLy r h As S (fun E => some (.ref (ea E rr))) S') (hl : ls.size = nL) (hdg : decode cc pc = .ok (.invokestatic idx, 3)) (hn : (As E).length = n) (hh : h < h') (hny : nLy ≤ 21) (hcat : (rest.map fun v => v.category).sum ≤ 8) {st0 : List Value} (hst : st0 = (As E).reverse ++ rest)
    (kk : ∀ (H1 : Heap) (locs1 : List Loc), Wd E (w E) s.heap S' H1 locs1 → W p l e (rmh h') s m args below meth c H1 locs1 0 0 Q (F0 m (pc + 3) ls (.ref (ea E rr) :: rest))) : W p l e (rmh h') s m args below meth c H locs 0 0 Q (F0 m pc ls st0) := inv_SA Lk C hw hM hl hdg hn hh hny hcat hst kk
theorem inv_Ni {w : Ev → St → va_W} {y : MethodName} {cy : ByteArray} {nLy idx n h h' : Nat} {r : Option FieldType} {As : List Value} {rr : Int32} (Lk : LkN own idx y cy nLy r n) (C : Cx p s m args meth c E cc nL own ret) (hw : Wd E (w E) s.heap S H locs)
    (hM : Ct l w y cy nLy r h (fun _ => As) S (fun _ => some (.int rr)) S') (hl : ls.size = nL) (hdg : decode cc pc = .ok (.invokestatic idx, 3)) (hn : As.length = n) (hh : h < h') (hny : nLy ≤ 21) (hcat : (rest.map fun v => v.category).sum ≤ 8) {st0 : List Value} (hst : st0 = As.reverse ++ rest)
    (kk : ∀ (H1 : Heap) (locs1 : List Loc), Wd E (w E) s.heap S' H1 locs1 → W p l e (rmh h') s m args below meth c H1 locs1 0 0 Q (F0 m (pc + 3) ls (.int rr :: rest))) : W p l e (rmh h') s m args below meth c H locs 0 0 Q (F0 m pc ls st0) := inv_N Lk C hw hM hl hdg hn hh hny hcat hst kk
theorem inv_Nl {w : Ev → St → va_W} {y : MethodName} {cy : ByteArray} {nLy idx n h h' : Nat} {r : Option FieldType} {As : List Value} {rr : Int64} (Lk : LkN own idx y cy nLy r n) (C : Cx p s m args meth c E cc nL own ret) (hw : Wd E (w E) s.heap S H locs)
    (hM : Ct l w y cy nLy r h (fun _ => As) S (fun _ => some (.long rr)) S') (hl : ls.size = nL) (hdg : decode cc pc = .ok (.invokestatic idx, 3)) (hn : As.length = n) (hh : h < h') (hny : nLy ≤ 21) (hcat : (rest.map fun v => v.category).sum ≤ 8) {st0 : List Value} (hst : st0 = As.reverse ++ rest)
    (kk : ∀ (H1 : Heap) (locs1 : List Loc), Wd E (w E) s.heap S' H1 locs1 → W p l e (rmh h') s m args below meth c H1 locs1 0 0 Q (F0 m (pc + 3) ls (.long rr :: rest))) : W p l e (rmh h') s m args below meth c H locs 0 0 Q (F0 m pc ls st0) := inv_N Lk C hw hM hl hdg hn hh hny hcat hst kk
theorem inv_Nv {w : Ev → St → va_W} {y : MethodName} {cy : ByteArray} {nLy idx n h h' : Nat} {r : Option FieldType} {As : List Value} (Lk : LkN own idx y cy nLy r n) (C : Cx p s m args meth c E cc nL own ret) (hw : Wd E (w E) s.heap S H locs)
    (hM : Ct l w y cy nLy r h (fun _ => As) S (fun _ => none) S') (hl : ls.size = nL) (hdg : decode cc pc = .ok (.invokestatic idx, 3)) (hn : As.length = n) (hh : h < h') (hny : nLy ≤ 21) (hcat : (rest.map fun v => v.category).sum ≤ 8) {st0 : List Value} (hst : st0 = As.reverse ++ rest)
    (kk : ∀ (H1 : Heap) (locs1 : List Loc), Wd E (w E) s.heap S' H1 locs1 → W p l e (rmh h') s m args below meth c H1 locs1 0 0 Q (F0 m (pc + 3) ls (rest))) : W p l e (rmh h') s m args below meth c H locs 0 0 Q (F0 m pc ls st0) := inv_N Lk C hw hM hl hdg hn hh hny hcat hst kk
theorem inv_Na {w : Ev → St → va_W} {y : MethodName} {cy : ByteArray} {nLy idx n h h' : Nat} {r : Option FieldType} {As : List Value} {rr : Nat} (Lk : LkN own idx y cy nLy r n) (C : Cx p s m args meth c E cc nL own ret) (hw : Wd E (w E) s.heap S H locs)
    (hM : Ct l w y cy nLy r h (fun _ => As) S (fun E => some (.ref (ea E rr))) S') (hl : ls.size = nL) (hdg : decode cc pc = .ok (.invokestatic idx, 3)) (hn : As.length = n) (hh : h < h') (hny : nLy ≤ 21) (hcat : (rest.map fun v => v.category).sum ≤ 8) {st0 : List Value} (hst : st0 = As.reverse ++ rest)
    (kk : ∀ (H1 : Heap) (locs1 : List Loc), Wd E (w E) s.heap S' H1 locs1 → W p l e (rmh h') s m args below meth c H1 locs1 0 0 Q (F0 m (pc + 3) ls (.ref (ea E rr) :: rest))) : W p l e (rmh h') s m args below meth c H locs 0 0 Q (F0 m pc ls st0) := inv_N Lk C hw hM hl hdg hn hh hny hcat hst kk
end BASE
