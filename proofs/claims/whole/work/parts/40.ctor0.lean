def KI (E : Ev) (A : Nat → Prop) (w : va_W) (U : State) : Prop := va_P (eD E) gCl w U.heap ∧ va_D A w ∧ va_K (eD E) gCl (gTy E) U ∧ ∀ q, U.heap.size ≤ q → A q
def QI (E : Ev) (A : Nat → Prop) (w : (Nat → Nat) → va_W) : Array Value → State → Outcome → State → Prop := fun _ st o t => o = .returned none ∧ (∃ qs, va_P (eD E) gCl (w qs) t.heap ∧ va_D A (w qs)) ∧ va_F A st t
def rmi (h mc ms : Nat) : Room := { frames := h, cells := mc, slots := ms, locals := 40 * h }
def CI (l : Launch) (E : Ev) (y : MethodName) (cc : ByteArray) (nL h mc ms : Nat) (av : List Value) (w0 : va_W) (w1 : (Nat → Nat) → va_W) : Prop := ∀ A : Nat → Prop, Met l y (.code y cc nL none :: gW) (rmi h mc ms) (va_Pc av (KI E A w0)) (QI E A w1) mc ms A
def LkI (own : String) (idx : Nat) (y : MethodName) (cy : ByteArray) (nLy n : Nat) : Prop :=
  (.code y cy nLy none ∈ gW ∧ .initialized y.cls ∈ gW ∧ .methodLink own idx y ∈ gW ∧ .instanceMethod y ∈ gW) ∧ (y.cls ≠ "java/lang/invoke/MethodHandle" ∧ y.cls ≠ "java/lang/invoke/VarHandle" ∧ (parseMethodDescriptor y.desc).map (fun d => d.parameters.length) = some n) ∧ y.name = "<init>"
def CxI (p : Program) (s : State) (m : MethodId) (args : Array Value) (meth : Method) (c : Code) (E : Ev) (A : Nat → Prop) (cc : ByteArray) (nL : Nat) (own : String) : Prop :=
  p.tables.exec = Jvm.exec ∧ c.code = cc ∧ c.maxLocals = nL ∧ s.vm.findClass own = some m.cls ∧ (∀ w ∈ gW, w.before args s = true) ∧ meth.locks = false ∧ va_K (eD E) gCl (gTy E) s ∧ (∀ q, s.heap.size ≤ q → A q) ∧ meth.sig.returnType = none ∧ meth.name = "<init>"
section CTOR
variable {p : Program} {l : Launch} {e : Env} {R : Room} {s : State} {m : MethodId} {args : Array Value} {below : List Frame} {meth : Method} {c : Code} {H : Heap} {locs : List Loc} {cells slots : Nat} {Q : State → Prop} {E : Ev} {A : Nat → Prop} {ws : va_W} {cc : ByteArray} {nL pc : Nat} {own : String} {ls : Array Slot} {rest : List Value}
theorem ofCtor {y : MethodName} {h mc ms : Nat} {av : List Value} {w0 : va_W} {w1 : (Nat → Nat) → va_W} (hy : plainFor y = true) (hsz : (lg_sl av).length ≤ nL)
    (body : ∀ (A : Nat → Prop) (p : Program) (e : Env) (s : State) (m : MethodId) (args : Array Value) (below : List Frame) (meth : Method) (c : Code) (ls : Array Slot), (meth.name = y.name → CxI p s m args meth c E A cc nL y.cls ∨ y.name ≠ "<init>") → p.tables.exec = Jvm.exec ∧ c.code = cc ∧ c.maxLocals = nL ∧ s.vm.findClass y.cls = some m.cls ∧ (∀ w ∈ gW, w.before args s = true) ∧ meth.locks = false ∧ va_K (eD E) gCl (gTy E) s ∧ (∀ q, s.heap.size ≤ q → A q) ∧ meth.sig.returnType = none ∧ meth.name = y.name → va_P (eD E) gCl w0 s.heap → va_D A w0 → lv_has ls nL (lv_args 0 av) →
      W p l e (rmi h mc ms) s m args below meth c s.heap [] 0 0 (MQ below (QI E A w1) args s mc ms A) (F0 m 0 ls [])) : CI l E y cc nL h mc ms av w0 w1 := by
  intro A
  refine ofWF (cc := cc) (maxL := nL) (ret := none) hy rfl ?_
  intro p e s m args below meth c s₁ B hml hv
  obtain ⟨rfl, hP, hD, hK, hA⟩ := hv
  have hts := atoms_spec (ws := .code y cc nL none :: gW) B.pre
  have hl := lv_entry av (n := nL) hsz
  rw [lg_entry_eq]
  have hn := (name_of_methodNamed B.named B.method).1
  refine body A p e s m _ below meth c _ (fun _ => ?_) ⟨B.exec, B.bytes, hml, findClass_of_methodNamed B.named, fun w hw => hts w (List.mem_cons_of_mem _ hw), B.notSynchronized, hK, hA, B.returns, hn⟩ hP hD hl
  by_cases hi : y.name = "<init>"
  · exact Or.inl ⟨B.exec, B.bytes, hml, findClass_of_methodNamed B.named, fun w hw => hts w (List.mem_cons_of_mem _ hw), B.notSynchronized, hK, hA, B.returns, hn.trans hi⟩
  · exact Or.inr hi
theorem ret_ctor {mc ms : Nat} {w1 : (Nat → Nat) → va_W} (qs : Nat → Nat) (hx : p.tables.exec = Jvm.exec) (hb : c.code = cc) (hr : meth.sig.returnType = none) (hlocks : meth.locks = false) (hP : va_P (eD E) gCl (w1 qs) H) (hD : va_D A (w1 qs)) (hS : va_S A s.heap H locs) (hc : cells ≤ mc) (hs : slots ≤ ms) (hdg : decode cc pc = .ok (.return_, 1)) :
    W p l e R s m args below meth c H locs cells slots (MQ below (QI E A w1) args s mc ms A) (F0 m pc ls []) :=
  W.widen (k := mc) (n := ms) hc hs (W.vret hx hb hr (fun t ht _ => ⟨rfl, ⟨qs, by rw [ht]; exact hP, hD⟩, hS.F ht⟩) hS.2.2 hdg)
theorem newI {n : Int32} {N' : Nat} (hx : p.tables.exec = Jvm.exec) (hb : c.code = cc) (hts : ∀ w ∈ gW, w.before args s = true) (hq : .arrayClass .int ∈ gW) (hK : va_K (eD E) gCl (gTy E) s) (hP : va_P (eD E) gCl ws H) (hD : va_D A ws) (hS : va_S A s.heap H locs) (hA : ∀ q, s.heap.size ≤ q → A q) (hn : ¬ n < 0) (hN : n.toNatClampNeg = N') (hbytes : N' * componentBytes .int ≤ 536870912) (hcells : cells + 1 ≤ R.cells) (hslots : slots + N' ≤ R.slots) (hdg : decode cc pc = .ok (.newarray .int, 2))
    (kk : ∀ (q : Nat) (H1 : Heap), va_P (eD E) gCl (ws ++ [(q, .inl (eI E, N', .inl (fun _ => 0)))]) H1 → va_D A (ws ++ [(q, .inl (eI E, N', .inl (fun _ => 0)))]) → va_S A s.heap H1 locs → W p l e R s m args below meth c H1 locs (cells + 1) (slots + N') Q (F0 m (pc + 2) ls (.ref q :: rest))) : W p l e R s m args below meth c H locs cells slots Q (F0 m pc ls (.int n :: rest)) :=
  va_newa (atype := .int) (a0 := (N', .inl (fun _ => 0))) hx hb (hts _ hq) rfl hK hP hD hS hA (fun _ => rfl) hn hN hbytes hcells hslots hdg (fun q cA H1 hK1 hP1 hD1 hS1 => by
    have h1 : s.vm.findClass ("[" ++ FieldType.int.toString) = some cA := (hK1.2 3 (cA, .int) rfl).2
    have h0 : s.vm.findClass ("[" ++ FieldType.int.toString) = some (eI E) := (hK.2 0 (eI E, .int) rfl).2
    have he : cA = eI E := Option.some.inj (h1.symm.trans h0)
    subst he
    exact kk q H1 hP1 hD1 hS1)
theorem newZ {n : Int32} {N' : Nat} (hx : p.tables.exec = Jvm.exec) (hb : c.code = cc) (hts : ∀ w ∈ gW, w.before args s = true) (hq : .arrayClass .boolean ∈ gW) (hK : va_K (eD E) gCl (gTy E) s) (hP : va_P (eD E) gCl ws H) (hD : va_D A ws) (hS : va_S A s.heap H locs) (hA : ∀ q, s.heap.size ≤ q → A q) (hn : ¬ n < 0) (hN : n.toNatClampNeg = N') (hbytes : N' * componentBytes .boolean ≤ 536870912) (hcells : cells + 1 ≤ R.cells) (hslots : slots + N' ≤ R.slots) (hdg : decode cc pc = .ok (.newarray .boolean, 2))
    (kk : ∀ (q : Nat) (H1 : Heap), va_P (eD E) gCl (ws ++ [(q, .inl (eZ E, N', .inl (fun _ => 0)))]) H1 → va_D A (ws ++ [(q, .inl (eZ E, N', .inl (fun _ => 0)))]) → va_S A s.heap H1 locs → W p l e R s m args below meth c H1 locs (cells + 1) (slots + N') Q (F0 m (pc + 2) ls (.ref q :: rest))) : W p l e R s m args below meth c H locs cells slots Q (F0 m pc ls (.int n :: rest)) :=
  va_newa (atype := .boolean) (a0 := (N', .inl (fun _ => 0))) hx hb (hts _ hq) rfl hK hP hD hS hA (fun _ => rfl) hn hN hbytes hcells hslots hdg (fun q cA H1 hK1 hP1 hD1 hS1 => by
    have h1 : s.vm.findClass ("[" ++ FieldType.boolean.toString) = some cA := (hK1.2 3 (cA, .boolean) rfl).2
    have h0 : s.vm.findClass ("[" ++ FieldType.boolean.toString) = some (eZ E) := (hK.2 2 (eZ E, .boolean) rfl).2
    have he : cA = eZ E := Option.some.inj (h1.symm.trans h0)
    subst he
    exact kk q H1 hP1 hD1 hS1)
theorem newJ {n : Int32} {N' : Nat} (hx : p.tables.exec = Jvm.exec) (hb : c.code = cc) (hts : ∀ w ∈ gW, w.before args s = true) (hq : .arrayClass .long ∈ gW) (hK : va_K (eD E) gCl (gTy E) s) (hP : va_P (eD E) gCl ws H) (hD : va_D A ws) (hS : va_S A s.heap H locs) (hA : ∀ q, s.heap.size ≤ q → A q) (hn : ¬ n < 0) (hN : n.toNatClampNeg = N') (hbytes : N' * componentBytes .long ≤ 536870912) (hcells : cells + 1 ≤ R.cells) (hslots : slots + N' ≤ R.slots) (hdg : decode cc pc = .ok (.newarray .long, 2))
    (kk : ∀ (q : Nat) (H1 : Heap), va_P (eD E) gCl (ws ++ [(q, .inl (eJ E, N', .inr (.inl (fun _ => 0))))]) H1 → va_D A (ws ++ [(q, .inl (eJ E, N', .inr (.inl (fun _ => 0))))]) → va_S A s.heap H1 locs → W p l e R s m args below meth c H1 locs (cells + 1) (slots + N') Q (F0 m (pc + 2) ls (.ref q :: rest))) : W p l e R s m args below meth c H locs cells slots Q (F0 m pc ls (.int n :: rest)) :=
  va_newa (atype := .long) (a0 := (N', .inr (.inl (fun _ => 0)))) hx hb (hts _ hq) rfl hK hP hD hS hA (fun _ => rfl) hn hN hbytes hcells hslots hdg (fun q cA H1 hK1 hP1 hD1 hS1 => by
    have h1 : s.vm.findClass ("[" ++ FieldType.long.toString) = some cA := (hK1.2 3 (cA, .long) rfl).2
    have h0 : s.vm.findClass ("[" ++ FieldType.long.toString) = some (eJ E) := (hK.2 1 (eJ E, .long) rfl).2
    have he : cA = eJ E := Option.some.inj (h1.symm.trans h0)
    subst he
    exact kk q H1 hP1 hD1 hS1)
theorem KI_blind {av : List Value} {w : va_W} : FrameBlind (va_Pc av (KI E A w)) := by
  intro a U g mk h
  obtain ⟨h1, h2, h3, h4, h5⟩ := h
  exact ⟨h1, h2, h3, va_K.moved (u := U) (U := U.calling g mk a) (Vm.Alike.refl U.vm) h4, h5⟩
theorem rmi_ok {h h' nLy mc ms mc' ms' : Nat} (hh : h < h') (hn : nLy ≤ 21) : (rmi h mc ms).frames + 1 ≤ (rmi h' mc' ms').frames ∧ 8 + (nLy + 11) + (rmi h mc ms).locals ≤ (rmi h' mc' ms').locals := by
  simp only [rmi]; omega
theorem after_ctor {st0 : List Value} {a : Array Value} {mc ms : Nat} {w1 : (Nat → Nat) → va_W} (hS : va_S A s.heap H locs) (hr : va_Run p l e R s m args below meth c H locs cells slots mc ms (F0 m pc ls st0) rest (QI E A w1 a) A)
    (kk : ∀ (qs : Nat → Nat) (H1 : Heap) (locs1 : List Loc), va_P (eD E) gCl (w1 qs) H1 → va_D A (w1 qs) → va_S A s.heap H1 locs1 → W p l e R s m args below meth c H1 locs1 (cells + mc) (slots + ms) Q (F0 m (pc + 3) ls rest)) : W p l e R s m args below meth c H locs cells slots Q (F0 m pc ls st0) := by
  intro T hT X
  obtain ⟨v, st₀, t, T', L, h0, X', hL, e1, e2, ⟨hv, ⟨qs, hP, hD⟩, hz, hk⟩, st⟩ := hr T hT X
  cases hv
  rw [h0] at hz hk
  obtain ⟨t2, a1, b1⟩ := kk qs T'.heap (locs ++ L) (by rw [e1]; exact hP) hD ⟨Nat.le_trans hS.1 (by rw [e1]; exact hz), fun q h1 h2 => by rw [e1, hk q (Nat.lt_of_lt_of_le h1 hS.1) h2]; exact hS.2.1 q h1 h2, fun q hq => by
      rcases List.mem_append.mp hq with h | h
      · exact hS.2.2 q h
      · exact hL q h⟩ T' rfl X'
  exact ⟨t2, st t2 a1, b1⟩
theorem KI_pre {av : List Value} (hK : va_K (eD E) gCl (gTy E) s) (hP : va_P (eD E) gCl ws H) (hD : va_D A ws) (hS : va_S A s.heap H locs) (hA : ∀ q, s.heap.size ≤ q → A q) : ∀ U : State, U.heap = H → s.WarmedH U.vm → va_Pc av (KI E A ws) av.toArray U := fun U hU hW =>
  ⟨rfl, by rw [hU]; exact hP, hD, va_K.moved hW.alike hK, fun q hq => hA q (Nat.le_trans hS.1 (by rw [← hU]; exact hq))⟩
theorem inv_I {y : MethodName} {cy : ByteArray} {nLy idx n h h' mc ms mc' ms' b : Nat} {As : List Value} {w1 : (Nat → Nat) → va_W} (Lk : LkI own idx y cy nLy n) (hx : p.tables.exec = Jvm.exec) (hb : c.code = cc) (hml : c.maxLocals = nL) (hown : s.vm.findClass own = some m.cls) (hts : ∀ w ∈ gW, w.before args s = true) (hK : va_K (eD E) gCl (gTy E) s) (hA : ∀ q, s.heap.size ≤ q → A q) (hP : va_P (eD E) gCl ws H) (hD : va_D A ws) (hS : va_S A s.heap H locs)
    (hM : CI l E y cy nLy h mc ms (.ref b :: As) ws w1) (hl : ls.size = nL) (hdg : decode cc pc = .ok (.invokespecial idx, 3)) (hn : As.length = n) (hR : R = rmi h' mc' ms' ∨ R = room_1 ∧ h ≤ 20) (hh : h < h') (hny : nLy ≤ 21) (hc : cells + mc ≤ R.cells) (hs : slots + ms ≤ R.slots) (hcat : (rest.map fun v => v.category).sum ≤ 8) {st0 : List Value} (hst : st0 = As.reverse ++ .ref b :: rest)
    (kk : ∀ (qs : Nat → Nat) (H1 : Heap) (locs1 : List Loc), va_P (eD E) gCl (w1 qs) H1 → va_D A (w1 qs) → va_S A s.heap H1 locs1 → W p l e R s m args below meth c H1 locs1 (cells + mc) (slots + ms) Q (F0 m (pc + 3) ls rest)) : W p l e R s m args below meth c H locs cells slots Q (F0 m pc ls st0) := by
  obtain ⟨⟨k1, k2, k3, k4⟩, kd, k5⟩ := Lk
  have hroom : (rmi h mc ms).frames + 1 ≤ R.frames ∧ 8 + (nLy + 11) + (rmi h mc ms).locals ≤ R.locals := by
    rcases hR with rfl | ⟨rfl, h20⟩
    · exact rmi_ok hh hny
    · simp only [rmi, room_1]; omega
  exact after_ctor hS (va_runI (As := As) (rest := rest) (n := n) (Ts := gW) ⟨hx, hb, hml, hown, hts⟩ (hM A) ⟨callB_of n hts (gW_GoodIn (c0 := .code y cy nLy none) k1) rfl rfl rfl (hts _ k2) (hts _ k3) kd hroom, k5, hts _ k4⟩ ⟨KI_blind, KI_pre hK hP hD hS hA⟩ rfl hn hl hst (lv_room hcat) hdg ⟨hc, hs⟩) kk
/-- a static method called within a constructor (Arrays.fill), by a contract of the same form -/
theorem inv_SI {y : MethodName} {cy : ByteArray} {nLy idx n h h' mc' ms' : Nat} {As : List Value} {w1 : (Nat → Nat) → va_W} (Lk : LkS own idx y cy nLy none n) (hx : p.tables.exec = Jvm.exec) (hb : c.code = cc) (hml : c.maxLocals = nL) (hown : s.vm.findClass own = some m.cls) (hts : ∀ w ∈ gW, w.before args s = true) (hK : va_K (eD E) gCl (gTy E) s) (hA : ∀ q, s.heap.size ≤ q → A q) (hP : va_P (eD E) gCl ws H) (hD : va_D A ws) (hS : va_S A s.heap H locs)
    (hM : CI l E y cy nLy h 0 0 As ws w1) (hl : ls.size = nL) (hdg : decode cc pc = .ok (.invokestatic idx, 3)) (hn : As.length = n) (hR : R = rmi h' mc' ms') (hh : h < h') (hny : nLy ≤ 21) (hc : cells ≤ R.cells) (hs : slots ≤ R.slots) (hcat : (rest.map fun v => v.category).sum ≤ 8) {st0 : List Value} (hst : st0 = As.reverse ++ rest)
    (kk : ∀ (qs : Nat → Nat) (H1 : Heap) (locs1 : List Loc), va_P (eD E) gCl (w1 qs) H1 → va_D A (w1 qs) → va_S A s.heap H1 locs1 → W p l e R s m args below meth c H1 locs1 cells slots Q (F0 m (pc + 3) ls rest)) : W p l e R s m args below meth c H locs cells slots Q (F0 m pc ls st0) := by
  obtain ⟨⟨k1, k2, k3, k4⟩, kd⟩ := Lk
  subst hR
  exact after_ctor hS (va_runS (As := As) (rest := rest) (n := n) (Ts := gW) ⟨hx, hb, hml, hown, hts⟩ (hM A) ⟨callB_of n hts (gW_GoodIn (c0 := .code y cy nLy none) k1) rfl rfl rfl (hts _ k2) (hts _ k3) kd (rmi_ok hh hny), hts _ k4⟩ ⟨KI_blind, KI_pre hK hP hD hS hA⟩ rfl hn hl hst (lv_room hcat) hdg ⟨hc, hs⟩) kk
end CTOR
theorem kb_58 : (Int8.ofInt (58)).toInt32 = 58 := by decide
theorem kb_101 : (Int8.ofInt (101)).toInt32 = 101 := by decide
theorem kb_121 : (Int8.ofInt (121)).toInt32 = 121 := by decide
theorem kb_122 : (Int8.ofInt (122)).toInt32 = 122 := by decide
theorem ks_360 : (Int16.ofInt (360)).toInt32 = 360 := by decide
theorem ks_1024 : (Int16.ofInt (1024)).toInt32 = 1024 := by decide
theorem q_99 : .methodLink RX10 1 objectInit ∈ gW := gW_in (i := 99) (by decide +kernel) (by decide +kernel)
theorem q_100 : .instanceMethod objectInit ∈ gW := gW_in (i := 100) (by decide +kernel) (by decide +kernel)
theorem q_101 : .code objectInit ⟨#[0xb1]⟩ 1 none ∈ gW := gW_in (i := 101) (by decide +kernel) (by decide +kernel)
theorem q_102 : .classLink RX10 7 RX8 ∈ gW := gW_in (i := 102) (by decide +kernel) (by decide +kernel)
theorem q_103 : .instantiable RX8 11 ∈ gW := gW_in (i := 103) (by decide +kernel) (by decide +kernel)
theorem q_104 : .methodLink RX10 9 yX8_init ∈ gW := gW_in (i := 104) (by decide +kernel) (by decide +kernel)
theorem q_105 : .instanceMethod yX8_init ∈ gW := gW_in (i := 105) (by decide +kernel) (by decide +kernel)
theorem q_106 : .code yX8_init cX8_init 1 none ∈ gW := gW_in (i := 106) (by decide +kernel) (by decide +kernel)
theorem q_107 : .methodLink RX8 3 objectInit ∈ gW := gW_in (i := 107) (by decide +kernel) (by decide +kernel)
theorem q_167 : .arrayClass .int ∈ gW := gW_in (i := 167) (by decide +kernel) (by decide +kernel)
theorem q_168 : .classLink RX10 16 RX5 ∈ gW := gW_in (i := 168) (by decide +kernel) (by decide +kernel)
theorem q_169 : .instantiable RX5 10 ∈ gW := gW_in (i := 169) (by decide +kernel) (by decide +kernel)
theorem q_170 : .methodLink RX10 18 yX5_init ∈ gW := gW_in (i := 170) (by decide +kernel) (by decide +kernel)
theorem q_171 : .instanceMethod yX5_init ∈ gW := gW_in (i := 171) (by decide +kernel) (by decide +kernel)
theorem q_172 : .code yX5_init cX5_init 1 none ∈ gW := gW_in (i := 172) (by decide +kernel) (by decide +kernel)
theorem q_173 : .methodLink RX5 1 objectInit ∈ gW := gW_in (i := 173) (by decide +kernel) (by decide +kernel)
theorem q_206 : .classLink RX10 23 RX7 ∈ gW := gW_in (i := 206) (by decide +kernel) (by decide +kernel)
theorem q_207 : .instantiable RX7 4 ∈ gW := gW_in (i := 207) (by decide +kernel) (by decide +kernel)
theorem q_208 : .methodLink RX10 25 yX7_init ∈ gW := gW_in (i := 208) (by decide +kernel) (by decide +kernel)
theorem q_209 : .instanceMethod yX7_init ∈ gW := gW_in (i := 209) (by decide +kernel) (by decide +kernel)
theorem q_210 : .code yX7_init cX7_init 1 none ∈ gW := gW_in (i := 210) (by decide +kernel) (by decide +kernel)
theorem q_211 : .methodLink RX7 3 objectInit ∈ gW := gW_in (i := 211) (by decide +kernel) (by decide +kernel)
theorem q_212 : .methodLink RX7 25 yJ7_fill_53178 ∈ gW := gW_in (i := 212) (by decide +kernel) (by decide +kernel)
theorem q_230 : .arrayClass .long ∈ gW := gW_in (i := 230) (by decide +kernel) (by decide +kernel)
theorem q_231 : .classLink RX10 30 RX6 ∈ gW := gW_in (i := 231) (by decide +kernel) (by decide +kernel)
theorem q_232 : .instantiable RX6 5 ∈ gW := gW_in (i := 232) (by decide +kernel) (by decide +kernel)
theorem q_233 : .methodLink RX10 32 yX6_init ∈ gW := gW_in (i := 233) (by decide +kernel) (by decide +kernel)
theorem q_234 : .instanceMethod yX6_init ∈ gW := gW_in (i := 234) (by decide +kernel) (by decide +kernel)
theorem q_235 : .code yX6_init cX6_init 1 none ∈ gW := gW_in (i := 235) (by decide +kernel) (by decide +kernel)
theorem q_236 : .methodLink RX6 3 objectInit ∈ gW := gW_in (i := 236) (by decide +kernel) (by decide +kernel)
theorem q_256 : .classLink RX10 37 RX0 ∈ gW := gW_in (i := 256) (by decide +kernel) (by decide +kernel)
theorem q_257 : .instantiable RX0 6 ∈ gW := gW_in (i := 257) (by decide +kernel) (by decide +kernel)
theorem q_258 : .methodLink RX10 39 yX0_init ∈ gW := gW_in (i := 258) (by decide +kernel) (by decide +kernel)
theorem q_259 : .instanceMethod yX0_init ∈ gW := gW_in (i := 259) (by decide +kernel) (by decide +kernel)
theorem q_260 : .code yX0_init cX0_init 1 none ∈ gW := gW_in (i := 260) (by decide +kernel) (by decide +kernel)
theorem q_261 : .methodLink RX0 1 objectInit ∈ gW := gW_in (i := 261) (by decide +kernel) (by decide +kernel)
theorem q_283 : .classLink RX10 44 RX2 ∈ gW := gW_in (i := 283) (by decide +kernel) (by decide +kernel)
theorem q_284 : .instantiable RX2 4 ∈ gW := gW_in (i := 284) (by decide +kernel) (by decide +kernel)
theorem q_285 : .methodLink RX10 46 yX2_init ∈ gW := gW_in (i := 285) (by decide +kernel) (by decide +kernel)
theorem q_286 : .instanceMethod yX2_init ∈ gW := gW_in (i := 286) (by decide +kernel) (by decide +kernel)
theorem q_287 : .code yX2_init cX2_init 2 none ∈ gW := gW_in (i := 287) (by decide +kernel) (by decide +kernel)
theorem q_288 : .methodLink RX2 3 objectInit ∈ gW := gW_in (i := 288) (by decide +kernel) (by decide +kernel)
theorem q_302 : .classLink RX10 53 RX4 ∈ gW := gW_in (i := 302) (by decide +kernel) (by decide +kernel)
theorem q_303 : .instantiable RX4 1 ∈ gW := gW_in (i := 303) (by decide +kernel) (by decide +kernel)
theorem q_304 : .methodLink RX10 55 yX4_init ∈ gW := gW_in (i := 304) (by decide +kernel) (by decide +kernel)
theorem q_305 : .instanceMethod yX4_init ∈ gW := gW_in (i := 305) (by decide +kernel) (by decide +kernel)
theorem q_306 : .code yX4_init cX4_init 2 none ∈ gW := gW_in (i := 306) (by decide +kernel) (by decide +kernel)
theorem q_307 : .methodLink RX4 3 objectInit ∈ gW := gW_in (i := 307) (by decide +kernel) (by decide +kernel)
theorem q_312 : .classLink RX10 60 RX9 ∈ gW := gW_in (i := 312) (by decide +kernel) (by decide +kernel)
theorem q_313 : .instantiable RX9 2 ∈ gW := gW_in (i := 313) (by decide +kernel) (by decide +kernel)
theorem q_314 : .methodLink RX10 62 yX9_init ∈ gW := gW_in (i := 314) (by decide +kernel) (by decide +kernel)
theorem q_315 : .instanceMethod yX9_init ∈ gW := gW_in (i := 315) (by decide +kernel) (by decide +kernel)
theorem q_316 : .code yX9_init cX9_init 2 none ∈ gW := gW_in (i := 316) (by decide +kernel) (by decide +kernel)
theorem q_317 : .methodLink RX9 3 objectInit ∈ gW := gW_in (i := 317) (by decide +kernel) (by decide +kernel)
theorem q_325 : .arrayClass .boolean ∈ gW := gW_in (i := 325) (by decide +kernel) (by decide +kernel)
theorem q_326 : .classLink RX10 67 RX1 ∈ gW := gW_in (i := 326) (by decide +kernel) (by decide +kernel)
theorem q_327 : .instantiable RX1 5 ∈ gW := gW_in (i := 327) (by decide +kernel) (by decide +kernel)
theorem q_328 : .methodLink RX10 69 yX1_init ∈ gW := gW_in (i := 328) (by decide +kernel) (by decide +kernel)
theorem q_329 : .instanceMethod yX1_init ∈ gW := gW_in (i := 329) (by decide +kernel) (by decide +kernel)
theorem q_330 : .code yX1_init cX1_init 4 none ∈ gW := gW_in (i := 330) (by decide +kernel) (by decide +kernel)
theorem q_331 : .methodLink RX1 3 objectInit ∈ gW := gW_in (i := 331) (by decide +kernel) (by decide +kernel)
theorem q_348 : .classLink RX10 76 RX3 ∈ gW := gW_in (i := 348) (by decide +kernel) (by decide +kernel)
theorem q_349 : .instantiable RX3 6 ∈ gW := gW_in (i := 349) (by decide +kernel) (by decide +kernel)
theorem q_350 : .methodLink RX10 78 yX3_init ∈ gW := gW_in (i := 350) (by decide +kernel) (by decide +kernel)
theorem q_351 : .instanceMethod yX3_init ∈ gW := gW_in (i := 351) (by decide +kernel) (by decide +kernel)
theorem q_352 : .code yX3_init cX3_init 2 none ∈ gW := gW_in (i := 352) (by decide +kernel) (by decide +kernel)
theorem q_353 : .methodLink RX3 3 objectInit ∈ gW := gW_in (i := 353) (by decide +kernel) (by decide +kernel)
theorem q_1150 : .methodLink RX11 3 objectInit ∈ gW := gW_in (i := 1150) (by decide +kernel) (by decide +kernel)
theorem lk_X7_25 : LkS RX7 25 yJ7_fill_53178 cJ7_fill_53178 4 none 2 := ⟨⟨q_214, q_82, q_212, q_213⟩, ⟨by decide, by decide, by decide +kernel⟩⟩
theorem li_X10_9 : LkI RX10 9 yX8_init cX8_init 1 0 := ⟨⟨q_106, q_79, q_104, q_105⟩, ⟨by decide, by decide, by decide +kernel⟩, rfl⟩
theorem li_X10_18 : LkI RX10 18 yX5_init cX5_init 1 0 := ⟨⟨q_172, q_80, q_170, q_171⟩, ⟨by decide, by decide, by decide +kernel⟩, rfl⟩
theorem li_X10_25 : LkI RX10 25 yX7_init cX7_init 1 0 := ⟨⟨q_210, q_81, q_208, q_209⟩, ⟨by decide, by decide, by decide +kernel⟩, rfl⟩
theorem li_X10_32 : LkI RX10 32 yX6_init cX6_init 1 0 := ⟨⟨q_235, q_83, q_233, q_234⟩, ⟨by decide, by decide, by decide +kernel⟩, rfl⟩
theorem li_X10_39 : LkI RX10 39 yX0_init cX0_init 1 0 := ⟨⟨q_260, q_84, q_258, q_259⟩, ⟨by decide, by decide, by decide +kernel⟩, rfl⟩
theorem li_X10_46 : LkI RX10 46 yX2_init cX2_init 2 1 := ⟨⟨q_287, q_85, q_285, q_286⟩, ⟨by decide, by decide, by decide +kernel⟩, rfl⟩
theorem li_X10_55 : LkI RX10 55 yX4_init cX4_init 2 1 := ⟨⟨q_306, q_86, q_304, q_305⟩, ⟨by decide, by decide, by decide +kernel⟩, rfl⟩
theorem li_X10_62 : LkI RX10 62 yX9_init cX9_init 2 1 := ⟨⟨q_316, q_87, q_314, q_315⟩, ⟨by decide, by decide, by decide +kernel⟩, rfl⟩
theorem li_X10_69 : LkI RX10 69 yX1_init cX1_init 4 3 := ⟨⟨q_330, q_88, q_328, q_329⟩, ⟨by decide, by decide, by decide +kernel⟩, rfl⟩
theorem li_X10_78 : LkI RX10 78 yX3_init cX3_init 2 1 := ⟨⟨q_352, q_89, q_350, q_351⟩, ⟨by decide, by decide, by decide +kernel⟩, rfl⟩
