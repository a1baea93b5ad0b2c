/-! my own rows over the kit's: hx_V bundles the world that moves, contracts have one form -/
abbrev hx_K3 (kJ kI kB : ClassId) : List (ClassId × FieldType) := [(kJ, .long), (kI, .int), (kB, .byte)]
abbrev hx_rm (f l : Nat) : Room := { frames := f, cells := 0, slots := 0, locals := l }
abbrev hx_rc (f l c n : Nat) : Room := { frames := f, cells := c, slots := n, locals := l }
def hx_iC : Nat → Int32 := fun j => match j with
  | 0 => -1
  | 1 => 0
  | 2 => 2
  | 3 => 4
  | 4 => 2
  | _ => 4
def hx_iS : Nat → Int32 := fun j => match j with
  | 2 => 3
  | 3 => 4
  | 7 => 4
  | 8 => 3
  | _ => 2
/-- what a method needs of the statics and of the words that no list of words may hold -/
def hx_ST (tC tS : Nat) (A : Nat → Prop) (U : State) (H : Heap) : Prop :=
  (va_Z "HexLoom$ColonReader" "DATA_BYTES" "[I" (.ref tC) A U H ∧ va_T .int tC 6 (fun j => .int (hx_iC j)) A U H) ∧
  (va_Z "HexLoom$SReader" "ADDRESS_BYTES" "[I" (.ref tS) A U H ∧ va_T .int tS 10 (fun j => .int (hx_iS j)) A U H) ∧ ∀ w ∈ hx_NW, va_Nw w U
theorem hx_ST.calm {tC tS : Nat} {A : Nat → Prop} {u U : State} {H : Heap} (hvm : u.vm = U.vm) (h : hx_ST tC tS A u H) : hx_ST tC tS A U H := by
  have ha : u.vm.Alike U.vm := hvm ▸ Vm.Alike.refl u.vm
  exact ⟨⟨h.1.1.moved ha, h.1.2.moved ha⟩, ⟨h.2.1.1.moved ha, h.2.1.2.moved ha⟩, fun w hw => va_Nw.same (hx_NWt w hw) hvm (h.2.2 w hw)⟩
theorem hx_ST.go {tC tS : Nat} {A B : Nat → Prop} {s U : State} {H H1 : Heap} (hW : s.WarmedH U.vm) (hk : ∀ a : Nat, a < H.size → ¬ A a → H1[a]? = H[a]?) (hAB : ∀ q, B q → A q) (h : hx_ST tC tS A s H) : hx_ST tC tS B U H1 :=
  ⟨⟨((h.1.1.kept hk).narrow hAB).moved hW.alike, ((h.1.2.kept hk).narrow hAB).moved hW.alike⟩, ⟨((h.2.1.1.kept hk).narrow hAB).moved hW.alike, ((h.2.1.2.kept hk).narrow hAB).moved hW.alike⟩, fun w hw => hx_NWw hW w hw (h.2.2 w hw)⟩
/-- a number that may stand in a boolean field -/
def hx_bz (v : Int32) : Prop := narrow .boolean (.int v) = .int v ∧ fits .boolean (.int v) = true
def hx_V (D : va_G) (A : Nat → Prop) (H0 H : Heap) (locs : List Loc) (ws : va_W) : Prop := va_P D vwCl ws H ∧ va_D A ws ∧ va_S A H0 H locs
theorem hx_fm {α : Type} {f : Nat → Option α} : ∀ {is : List Nat} {l : List α}, is.map f = l.map some → is.filterMap f = l
  | [], l, h => by cases l with
    | nil => rfl
    | cons a t => simp at h
  | i :: is, l, h => by cases l with
    | nil => simp at h
    | cons a t =>
      simp only [List.map_cons, List.cons.injEq] at h
      rw [List.filterMap_cons_some h.1, hx_fm h.2]
theorem hx_V.sub {D : va_G} {A : Nat → Prop} {H0 H : Heap} {locs : List Loc} {ws ws' : va_W} (V : hx_V D A H0 H locs ws) (is : List Nat) (hn : va_nd is = true) (hs : is.map (fun i => ws[i]?) = ws'.map some) : hx_V D A H0 H locs ws' :=
  ⟨V.1.sub is (hx_fm hs), V.2.1.sub is hn hs, V.2.2⟩
def hx_I (D : va_G) (kJ kI kB : ClassId) (tC tS : Nat) (ws : va_W) (sz : Nat) (U : State) : Prop :=
  U.heap.size = sz ∧ va_P D vwCl ws U.heap ∧ va_K D vwCl (hx_K3 kJ kI kB) U ∧ va_D (fun _ => True) ws ∧ hx_ST tC tS (va_A ws sz) U U.heap
theorem hx_blind {D : va_G} {kJ kI kB : ClassId} {tC tS : Nat} {ws : va_W} {sz : Nat} {av : List Value} : FrameBlind (va_Pc av (hx_I D kJ kI kB tC tS ws sz)) := fun a U g mk q => by
  obtain ⟨q0, q1, qP, qK, qD, qS⟩ := q
  exact ⟨q0, q1, qP, va_K.moved (u := U) (U := U.calling g mk a) (Vm.Alike.refl U.vm) qK, qD, hx_ST.calm (u := U) (U := U.calling g mk a) rfl qS⟩
theorem hx_ofW0 {l : Launch} {y : MethodName} {rm : Room} {cc : ByteArray} {maxL : Nat} {ret : Option FieldType} {av : List Value} {D : va_G} {kJ kI kB : ClassId} {tC tS : Nat} {ws : va_W} {sz mc ms : Nat} {Qc : (Nat → Prop) → Array Value → State → Outcome → State → Prop}
    (hy : plainName y.cls = true) (hlen : (lg_sl av).length ≤ maxL)
    (body : ∀ (p : Program) (e : Env) (s : State) (m : MethodId) (below : List Frame) (meth : Method) (c : Code) (ls : Array Slot) (A : Nat → Prop), CallFix p m c cc maxL s av.toArray hx_B y.cls → va_K D vwCl (hx_K3 kJ kI kB) s → hx_ST tC tS A s s.heap → (∀ q, s.heap.size ≤ q → A q) → meth.sig.returnType = ret → meth.locks = false → meth.name = y.name → lv_has ls maxL (lv_args 0 av) → hx_V D A s.heap s.heap [] ws →
      W p l e rm s m av.toArray below meth c s.heap [] 0 0 (MQ below (Qc A) av.toArray s mc ms A) (F0 m 0 ls [])) :
    Met l y (.code y cc maxL ret :: hx_B) rm (va_Pc av (hx_I D kJ kI kB tC tS ws sz)) (Qc (va_A ws sz)) mc ms (va_A ws sz) := by
  refine Met.ofW (cc := cc) (maxL := maxL) (ret := ret) hy rfl ?_
  intro p e s m args below meth c s₁ B hml hv
  obtain ⟨rfl, hsz, hP, hK, hD0, hZ⟩ := hv
  subst hsz
  have hts := atoms_spec (ws := .code y cc maxL ret :: hx_B) B.pre
  rw [lg_entry_eq]
  exact body p e s m below meth c _ (va_A ws s.heap.size) ⟨B.exec, B.bytes, hml, findClass_of_methodNamed B.named, fun w h => hts w (List.mem_cons_of_mem _ h)⟩ hK hZ (fun q h => Or.inr h) B.returns B.notSynchronized (name_of_methodNamed B.named B.method).1 (lv_entry av hlen) ⟨hP, hD0.self, va_S.rf⟩
theorem hx_ofWi {l : Launch} {y : MethodName} {rm : Room} {cc : ByteArray} {maxL : Nat} {av : List Value} {D : va_G} {kJ kI kB : ClassId} {tC tS : Nat} {ws : va_W} {sz : Nat} {S : Type} {post : Int32 → S → Prop} {B : S → va_W}
    (hy : plainName y.cls = true) (hlen : (lg_sl av).length ≤ maxL)
    (body : ∀ (p : Program) (e : Env) (s : State) (m : MethodId) (below : List Frame) (meth : Method) (c : Code) (ls : Array Slot) (A : Nat → Prop) (Qf : State → Prop) (H : Heap) (locs : List Loc), CallFix p m c cc maxL s av.toArray hx_B y.cls → va_K D vwCl (hx_K3 kJ kI kB) s → hx_ST tC tS A s s.heap → (∀ q, s.heap.size ≤ q → A q) →
      (∀ (r : Int32) (u : S) (H : Heap) (locs : List Loc) (pc : Nat) (ls : Array Slot), decode cc pc = .ok (.ireturn, 1) → post r u → hx_V D A s.heap H locs (B u) → W p l e rm s m av.toArray below meth c H locs 0 0 Qf (F0 m pc ls [.int r])) →
      lv_has ls maxL (lv_args 0 av) → hx_V D A s.heap H locs ws → W p l e rm s m av.toArray below meth c H locs 0 0 Qf (F0 m 0 ls [])) :
    Met l y (.code y cc maxL (some .int) :: hx_B) rm (va_Pc av (hx_I D kJ kI kB tC tS ws sz)) (va_Qi post (fun u t => va_P D vwCl (B u) t.heap ∧ va_D (va_A ws sz) (B u)) (va_A ws sz)) 0 0 (va_A ws sz) :=
  hx_ofW0 (Qc := fun A => va_Qi post (fun u t => va_P D vwCl (B u) t.heap ∧ va_D A (B u)) A) hy hlen (fun p e s m below meth c ls A F hK hZ hA hr hlk _ hl V => body p e s m below meth c ls A _ _ _ F hK hZ hA (fun r u H locs pc ls hd hp V => W.iret (v := r) F.1 F.2.1 hr (fun t ht _ => ⟨⟨r, u, rfl, hp, by rw [ht]; exact V.1, V.2.1⟩, V.2.2.F ht⟩) V.2.2.2.2 hd hlk) hl V)
theorem hx_ofWz {l : Launch} {y : MethodName} {rm : Room} {cc : ByteArray} {maxL : Nat} {av : List Value} {D : va_G} {kJ kI kB : ClassId} {tC tS : Nat} {ws : va_W} {sz : Nat} {S : Type} {post : Int32 → S → Prop} {B : S → va_W}
    (hy : plainName y.cls = true) (hlen : (lg_sl av).length ≤ maxL)
    (body : ∀ (p : Program) (e : Env) (s : State) (m : MethodId) (below : List Frame) (meth : Method) (c : Code) (ls : Array Slot) (A : Nat → Prop) (Qf : State → Prop) (H : Heap) (locs : List Loc), CallFix p m c cc maxL s av.toArray hx_B y.cls → va_K D vwCl (hx_K3 kJ kI kB) s → hx_ST tC tS A s s.heap → (∀ q, s.heap.size ≤ q → A q) →
      (∀ (r : Int32) (u : S) (H : Heap) (locs : List Loc) (pc : Nat) (ls : Array Slot), narrow .boolean (.int r) = .int r → decode cc pc = .ok (.ireturn, 1) → post r u → hx_V D A s.heap H locs (B u) → W p l e rm s m av.toArray below meth c H locs 0 0 Qf (F0 m pc ls [.int r])) →
      lv_has ls maxL (lv_args 0 av) → hx_V D A s.heap H locs ws → W p l e rm s m av.toArray below meth c H locs 0 0 Qf (F0 m 0 ls [])) :
    Met l y (.code y cc maxL (some .boolean) :: hx_B) rm (va_Pc av (hx_I D kJ kI kB tC tS ws sz)) (va_Qi post (fun u t => va_P D vwCl (B u) t.heap ∧ va_D (va_A ws sz) (B u)) (va_A ws sz)) 0 0 (va_A ws sz) :=
  hx_ofW0 (Qc := fun A => va_Qi post (fun u t => va_P D vwCl (B u) t.heap ∧ va_D A (B u)) A) hy hlen (fun p e s m below meth c ls A F hK hZ hA hr hlk _ hl V => body p e s m below meth c ls A _ _ _ F hK hZ hA (fun r u H locs pc ls hn hd hp V => W.zret (v := r) F.1 F.2.1 hr hn (fun t ht _ => ⟨⟨r, u, rfl, hp, by rw [ht]; exact V.1, V.2.1⟩, V.2.2.F ht⟩) V.2.2.2.2 hd hlk) hl V)
theorem hx_ofWl {l : Launch} {y : MethodName} {rm : Room} {cc : ByteArray} {maxL : Nat} {av : List Value} {D : va_G} {kJ kI kB : ClassId} {tC tS : Nat} {ws : va_W} {sz : Nat} {S : Type} {post : Int64 → S → Prop} {B : S → va_W}
    (hy : plainName y.cls = true) (hlen : (lg_sl av).length ≤ maxL)
    (body : ∀ (p : Program) (e : Env) (s : State) (m : MethodId) (below : List Frame) (meth : Method) (c : Code) (ls : Array Slot) (A : Nat → Prop) (Qf : State → Prop) (H : Heap) (locs : List Loc), CallFix p m c cc maxL s av.toArray hx_B y.cls → va_K D vwCl (hx_K3 kJ kI kB) s → hx_ST tC tS A s s.heap → (∀ q, s.heap.size ≤ q → A q) →
      (∀ (r : Int64) (u : S) (H : Heap) (locs : List Loc) (pc : Nat) (ls : Array Slot), decode cc pc = .ok (.lreturn, 1) → post r u → hx_V D A s.heap H locs (B u) → W p l e rm s m av.toArray below meth c H locs 0 0 Qf (F0 m pc ls [.long r])) →
      lv_has ls maxL (lv_args 0 av) → hx_V D A s.heap H locs ws → W p l e rm s m av.toArray below meth c H locs 0 0 Qf (F0 m 0 ls [])) :
    Met l y (.code y cc maxL (some .long) :: hx_B) rm (va_Pc av (hx_I D kJ kI kB tC tS ws sz)) (va_Ql post (fun u t => va_P D vwCl (B u) t.heap ∧ va_D (va_A ws sz) (B u)) (va_A ws sz)) 0 0 (va_A ws sz) :=
  hx_ofW0 (Qc := fun A => va_Ql post (fun u t => va_P D vwCl (B u) t.heap ∧ va_D A (B u)) A) hy hlen (fun p e s m below meth c ls A F hK hZ hA hr hlk _ hl V => body p e s m below meth c ls A _ _ _ F hK hZ hA (fun r u H locs pc ls hd hp V => W.lret (v := r) F.1 F.2.1 hr (fun t ht _ => ⟨⟨r, u, rfl, hp, by rw [ht]; exact V.1, V.2.1⟩, V.2.2.F ht⟩) V.2.2.2.2 hd hlk) hl V)
theorem hx_ofWv {l : Launch} {y : MethodName} {rm : Room} {cc : ByteArray} {maxL : Nat} {av : List Value} {D : va_G} {kJ kI kB : ClassId} {tC tS : Nat} {ws : va_W} {sz mc ms : Nat} {S : Type} {post : S → Prop} {B : S → va_W}
    (hy : plainName y.cls = true) (hlen : (lg_sl av).length ≤ maxL)
    (body : ∀ (p : Program) (e : Env) (s : State) (m : MethodId) (below : List Frame) (meth : Method) (c : Code) (ls : Array Slot) (A : Nat → Prop) (Qf : State → Prop) (H : Heap) (locs : List Loc), CallFix p m c cc maxL s av.toArray hx_B y.cls → va_K D vwCl (hx_K3 kJ kI kB) s → hx_ST tC tS A s s.heap → (∀ q, s.heap.size ≤ q → A q) → meth.name = y.name →
      (∀ (u : S) (H : Heap) (locs : List Loc) (pc : Nat) (ls : Array Slot), decode cc pc = .ok (.return_, 1) → post u → hx_V D A s.heap H locs (B u) → W p l e rm s m av.toArray below meth c H locs mc ms Qf (F0 m pc ls [])) →
      lv_has ls maxL (lv_args 0 av) → hx_V D A s.heap H locs ws → W p l e rm s m av.toArray below meth c H locs 0 0 Qf (F0 m 0 ls [])) :
    Met l y (.code y cc maxL none :: hx_B) rm (va_Pc av (hx_I D kJ kI kB tC tS ws sz)) (va_Qv post (fun u t => va_P D vwCl (B u) t.heap ∧ va_D (va_A ws sz) (B u)) (va_A ws sz)) mc ms (va_A ws sz) :=
  hx_ofW0 (Qc := fun A => va_Qv post (fun u t => va_P D vwCl (B u) t.heap ∧ va_D A (B u)) A) hy hlen (fun p e s m below meth c ls A F hK hZ hA hr hlk hnm hl V => body p e s m below meth c ls A _ _ _ F hK hZ hA hnm (fun u H locs pc ls hd hp V => W.vret F.1 F.2.1 hr (fun t ht _ => ⟨⟨u, rfl, hp, by rw [ht]; exact V.1, V.2.1⟩, V.2.2.F ht⟩) V.2.2.2.2 hd hlk) hl V)
/-- a field link: its class's number in vwCl, its slot, its type -/
def hx_FL (own : String) (index ci k : Nat) (ty : FieldType) (fin : Bool) : Prop := ∃ (C : String) (T : u_T) (N : Nat) (ty0 : Nat → FieldType), vwCl[ci]? = some (C, T, N) ∧ (∀ w ∈ u_ws C T N, w ∈ hx_B) ∧ (∀ k, k < N → parseFieldDescriptor (T k).2.2.1 = some (ty0 k)) ∧ (∀ a, a < N → ∀ b, b < N → a ≠ b → (T a).2.1 ≠ (T b).2.1) ∧ k < N ∧ Cond.fieldLink own index (T k).1 (T k).2.1 (T k).2.2.1 ∈ hx_B ∧ (T k).2.2.2 = fin ∧ ty0 k = ty ∧ (T k).1 = C
/-- links of calls -/
def hx_LV (own : String) (index : Nat) (C : String) (y : MethodName) (bytes : ByteArray) (maxL : Nat) (ret : Option FieldType) (n : Nat) : Prop :=
  GoodIn hx_B (wsV own index C y (.code y bytes maxL ret :: hx_B)) ∧ (y.cls = C ∧ y.cls ≠ "java/lang/invoke/MethodHandle" ∧ y.cls ≠ "java/lang/invoke/VarHandle" ∧ (parseMethodDescriptor y.desc).map (fun d => d.parameters.length) = some n)
def hx_LS (own : String) (index : Nat) (y : MethodName) (bytes : ByteArray) (maxL : Nat) (ret : Option FieldType) (n : Nat) : Prop :=
  GoodIn hx_B (wsS own index y (.code y bytes maxL ret :: hx_B)) ∧ (y.cls = own ∧ y.cls ≠ "java/lang/invoke/MethodHandle" ∧ y.cls ≠ "java/lang/invoke/VarHandle" ∧ (parseMethodDescriptor y.desc).map (fun d => d.parameters.length) = some n)
/-- through a name x that the receiver's class C selects y for; abs: x is abstract -/
def hx_LU (own : String) (index : Nat) (C owner : String) (x y : MethodName) (bytes : ByteArray) (maxL : Nat) (ret : Option FieldType) (n : Nat) : Prop :=
  GoodIn hx_B (va_wsU own index C owner x y (.code y bytes maxL ret :: hx_B)) ∧ (owner ≠ "java/lang/invoke/MethodHandle" ∧ owner ≠ "java/lang/invoke/VarHandle" ∧ (parseMethodDescriptor x.desc).map (fun d => d.parameters.length) = some n) ∧ (y = ⟨owner, x.name, x.desc⟩ ∨ Cond.declares ⟨owner, x.name, x.desc⟩ ∈ hx_NW)
def hx_LI (own : String) (index : Nat) (y : MethodName) (bytes : ByteArray) (maxL : Nat) (n : Nat) : Prop :=
  GoodIn hx_B (.code y bytes maxL none :: hx_B) ∧ Cond.initialized y.cls ∈ hx_B ∧ Cond.methodLink own index y ∈ hx_B ∧ Cond.instanceMethod y ∈ hx_B ∧ y.name = "<init>" ∧ (y.cls ≠ "java/lang/invoke/MethodHandle" ∧ y.cls ≠ "java/lang/invoke/VarHandle" ∧ (parseMethodDescriptor y.desc).map (fun d => d.parameters.length) = some n)
def hx_LN (own : String) (index : Nat) (y : MethodName) (host : String) (bytes : ByteArray) (maxL : Nat) (n : Nat) : Prop :=
  GoodIn hx_B (.code y bytes maxL none :: hx_B) ∧ Cond.initialized y.cls ∈ hx_B ∧ Cond.methodLinkNest own index y host ∈ hx_NW ∧ Cond.instanceMethod y ∈ hx_B ∧ y.name = "<init>" ∧ (y.cls ≠ "java/lang/invoke/MethodHandle" ∧ y.cls ≠ "java/lang/invoke/VarHandle" ∧ (parseMethodDescriptor y.desc).map (fun d => d.parameters.length) = some n)
def hx_Cut (ws wc wr : va_W) (isC isR : List Nat) : Prop := isC.map (fun i => ws[i]?) = wc.map some ∧ isR.map (fun i => ws[i]?) = wr.map some ∧ va_nd isC = true ∧ va_nd isR = true ∧ ∀ i ∈ isR, i ∉ isC
section HXR
variable {p : Program} {l : Launch} {e : Env} {R : Room} {s : State} {m : MethodId} {args : Array Value} {below : List Frame} {meth : Method} {c : Code} {H : Heap} {locs : List Loc} {cells slots : Nat} {Q : State → Prop} {cc : ByteArray} {nL pc : Nat} {ls : Array Slot} {rest st0 : List Value} {D : va_G} {A : Nat → Prop} {a : Nat} {ws wc wr : va_W} {own : String} {kJ kI kB : ClassId} {tC tS : Nat} {isC isR : List Nat}
theorem hx_get (F : CallFix p m c cc nL s args hx_B own) (hK : va_K D vwCl (hx_K3 kJ kI kB) s) (V : hx_V D A s.heap H locs ws) {index ci k : Nat} {ty : FieldType} {fin : Bool} (L : hx_FL own index ci k ty fin) (q0 : Nat) {fs : List Value} (he : ws[q0]? = some (a, .inr (ci, fs))) {v : Value} (hv : fs[k]? = some v) (hdg : decode cc pc = .ok (.getfield index, 3))
    (kk : W p l e R s m args below meth c H locs cells slots Q (F0 m (pc + 3) ls (v :: rest))) : W p l e R s m args below meth c H locs cells slots Q (F0 m pc ls (.ref a :: rest)) := by
  obtain ⟨C, T, N, ty0, h1, h2, h3, h4, h5, h6, h7, h8, h9⟩ := L
  exact va_get F.1 F.2.1 F.2.2.2.2 h2 F.2.2.2.1 hK V.1 q0 he h1 k h5 (F.2.2.2.2 _ h6) (fun _ h => h) hv hdg kk
theorem hx_put (F : CallFix p m c cc nL s args hx_B own) (hK : va_K D vwCl (hx_K3 kJ kI kB) s) (V : hx_V D A s.heap H locs ws) {index ci k : Nat} {ty : FieldType} (L : hx_FL own index ci k ty false) (q0 : Nat) {fs : List Value} (he : ws[q0]? = some (a, .inr (ci, fs))) {v : Value} (hn : narrow ty v = v) (hfit : fits ty v = true) (hl : k < fs.length) {ws' : va_W} (hw : ws.set q0 (a, .inr (ci, fs.set k v)) = ws') (hdg : decode cc pc = .ok (.putfield index, 3))
    (kk : ∀ (H1 : Heap) (locs1 : List Loc), hx_V D A s.heap H1 locs1 ws' → W p l e R s m args below meth c H1 locs1 cells slots Q (F0 m (pc + 3) ls rest)) : W p l e R s m args below meth c H locs cells slots Q (F0 m pc ls (v :: .ref a :: rest)) := by
  obtain ⟨C, T, N, ty0, h1, h2, h3, h4, h5, h6, h7, h8, h9⟩ := L
  subst hw
  exact va_put F.1 F.2.1 F.2.2.2.2 h2 ty0 h3 h4 F.2.2.2.1 hK V.1 V.2.1 V.2.2 q0 he h1 k h5 (F.2.2.2.2 _ h6) (fun _ h => h) h7 (by rw [h3 k h5, h8]) hn hfit hl hdg (fun H1 l1 x y z => kk H1 l1 ⟨x, y, z⟩)
theorem hx_putF (F : CallFix p m c cc nL s args hx_B own) (hK : va_K D vwCl (hx_K3 kJ kI kB) s) (hin : meth.name = "<init>") {ci : Nat} (ho : (vwCl[ci]?).map (fun q => q.1) = some own) (V : hx_V D A s.heap H locs ws) {index k : Nat} {ty : FieldType} (L : hx_FL own index ci k ty true) (q0 : Nat) {fs : List Value} (he : ws[q0]? = some (a, .inr (ci, fs))) {v : Value} (hn : narrow ty v = v) (hfit : fits ty v = true) (hl : k < fs.length) {ws' : va_W} (hw : ws.set q0 (a, .inr (ci, fs.set k v)) = ws') (hdg : decode cc pc = .ok (.putfield index, 3))
    (kk : ∀ (H1 : Heap) (locs1 : List Loc), hx_V D A s.heap H1 locs1 ws' → W p l e R s m args below meth c H1 locs1 cells slots Q (F0 m (pc + 3) ls rest)) : W p l e R s m args below meth c H locs cells slots Q (F0 m pc ls (v :: .ref a :: rest)) := by
  obtain ⟨C, T, N, ty0, h1, h2, h3, h4, h5, h6, h7, h8, h9⟩ := L
  subst hw
  exact va_putF F.1 F.2.1 F.2.2.2.2 h2 ty0 h3 h4 F.2.2.2.1 hK V.1 V.2.1 V.2.2 q0 he h1 k h5 (F.2.2.2.2 _ h6) (fun _ h => h) h7 hin (by rw [h9]; rw [h1] at ho; exact Option.some.inj ho) (by rw [h3 k h5, h8]) hn hfit hl hdg (fun H1 l1 x y z => kk H1 l1 ⟨x, y, z⟩)
theorem hx_iald (F : CallFix p m c cc nL s args hx_B own) (hK : va_K D vwCl (hx_K3 kJ kI kB) s) (V : hx_V D A s.heap H locs ws) (q0 : Nat) {n : Nat} {f : Nat → Int32} (he : ws[q0]? = some (a, .inl (kI, n, .inl f))) {i : Int32} (hin : vp_in i n) (hdg : decode cc pc = .ok (.iaload, 1))
    (kk : W p l e R s m args below meth c H locs cells slots Q (F0 m (pc + 1) ls (.int (f i.toNatClampNeg) :: rest))) : W p l e R s m args below meth c H locs cells slots Q (F0 m pc ls (.int i :: .ref a :: rest)) := va_iald F.1 F.2.1 hK V.1 q0 1 he rfl hin hdg kk
theorem hx_bald (F : CallFix p m c cc nL s args hx_B own) (hK : va_K D vwCl (hx_K3 kJ kI kB) s) (V : hx_V D A s.heap H locs ws) (q0 : Nat) {n : Nat} {f : Nat → Int32} (he : ws[q0]? = some (a, .inl (kB, n, .inl f))) {i : Int32} (hin : vp_in i n) (hdg : decode cc pc = .ok (.baload, 1))
    (kk : W p l e R s m args below meth c H locs cells slots Q (F0 m (pc + 1) ls (.int (f i.toNatClampNeg) :: rest))) : W p l e R s m args below meth c H locs cells slots Q (F0 m pc ls (.int i :: .ref a :: rest)) := va_bald F.1 F.2.1 hK V.1 q0 2 he rfl hin hdg kk
theorem hx_lald (F : CallFix p m c cc nL s args hx_B own) (hK : va_K D vwCl (hx_K3 kJ kI kB) s) (V : hx_V D A s.heap H locs ws) (q0 : Nat) {n : Nat} {f : Nat → Int64} (he : ws[q0]? = some (a, .inl (kJ, n, .inr (.inl f)))) {i : Int32} (hin : vp_in i n) (hdg : decode cc pc = .ok (.laload, 1))
    (kk : W p l e R s m args below meth c H locs cells slots Q (F0 m (pc + 1) ls (.long (f i.toNatClampNeg) :: rest))) : W p l e R s m args below meth c H locs cells slots Q (F0 m pc ls (.int i :: .ref a :: rest)) := va_lald F.1 F.2.1 hK V.1 q0 0 he rfl hin hdg kk
theorem hx_iast (F : CallFix p m c cc nL s args hx_B own) (hK : va_K D vwCl (hx_K3 kJ kI kB) s) (V : hx_V D A s.heap H locs ws) (q0 : Nat) {n : Nat} {f : Nat → Int32} (he : ws[q0]? = some (a, .inl (kI, n, .inl f))) {i x : Int32} (hin : vp_in i n) {ws' : va_W} (hw : ws.set q0 (a, .inl (kI, n, .inl (upd f i.toNatClampNeg x))) = ws') (hdg : decode cc pc = .ok (.iastore, 1))
    (kk : ∀ (H1 : Heap) (locs1 : List Loc), hx_V D A s.heap H1 locs1 ws' → W p l e R s m args below meth c H1 locs1 cells slots Q (F0 m (pc + 1) ls rest)) : W p l e R s m args below meth c H locs cells slots Q (F0 m pc ls (.int x :: .int i :: .ref a :: rest)) := by
  subst hw
  exact va_iast F.1 F.2.1 hK V.1 V.2.1 V.2.2 q0 1 he rfl hin hdg (fun H1 l1 x y z => kk H1 l1 ⟨x, y, z⟩)
theorem hx_bast (F : CallFix p m c cc nL s args hx_B own) (hK : va_K D vwCl (hx_K3 kJ kI kB) s) (V : hx_V D A s.heap H locs ws) (q0 : Nat) {n : Nat} {f : Nat → Int32} (he : ws[q0]? = some (a, .inl (kB, n, .inl f))) {i x : Int32} (hin : vp_in i n) {ws' : va_W} (hw : ws.set q0 (a, .inl (kB, n, .inl (upd f i.toNatClampNeg (vp_nar .byte x)))) = ws') (hdg : decode cc pc = .ok (.bastore, 1))
    (kk : ∀ (H1 : Heap) (locs1 : List Loc), hx_V D A s.heap H1 locs1 ws' → W p l e R s m args below meth c H1 locs1 cells slots Q (F0 m (pc + 1) ls rest)) : W p l e R s m args below meth c H locs cells slots Q (F0 m pc ls (.int x :: .int i :: .ref a :: rest)) := by
  subst hw
  exact va_bast F.1 F.2.1 hK V.1 V.2.1 V.2.2 q0 2 he rfl hin hdg (fun H1 l1 x y z => kk H1 l1 ⟨x, y, z⟩)
theorem hx_last (F : CallFix p m c cc nL s args hx_B own) (hK : va_K D vwCl (hx_K3 kJ kI kB) s) (V : hx_V D A s.heap H locs ws) (q0 : Nat) {n : Nat} {f : Nat → Int64} (he : ws[q0]? = some (a, .inl (kJ, n, .inr (.inl f)))) {i : Int32} {x : Int64} (hin : vp_in i n) {ws' : va_W} (hw : ws.set q0 (a, .inl (kJ, n, .inr (.inl (vp_updL f i.toNatClampNeg x)))) = ws') (hdg : decode cc pc = .ok (.lastore, 1))
    (kk : ∀ (H1 : Heap) (locs1 : List Loc), hx_V D A s.heap H1 locs1 ws' → W p l e R s m args below meth c H1 locs1 cells slots Q (F0 m (pc + 1) ls rest)) : W p l e R s m args below meth c H locs cells slots Q (F0 m pc ls (.long x :: .int i :: .ref a :: rest)) := by
  subst hw
  exact va_last F.1 F.2.1 hK V.1 V.2.1 V.2.2 q0 0 he rfl hin hdg (fun H1 l1 x y z => kk H1 l1 ⟨x, y, z⟩)
/-- what arraycopy asks of its numbers -/
def hx_cpo (sp dp n : Int32) (n0 n1 : Nat) : Prop := ¬ sp < 0 ∧ ¬ dp < 0 ∧ ¬ n < 0 ∧ sp.toNatClampNeg + n.toNatClampNeg ≤ n0 ∧ dp.toNatClampNeg + n.toNatClampNeg ≤ n1
def hx_LA (own : String) (index : Nat) : Prop := Cond.methodLink own index arraycopyName ∈ hx_B ∧ Cond.native arraycopyName ∈ hx_B ∧ Cond.static arraycopyName ∈ hx_B ∧ Cond.initialized "java/lang/System" ∈ hx_B
theorem hx_copyi (F : CallFix p m c cc nL s args hx_B own) (hsz : ls.size = nL) (hK : va_K D vwCl (hx_K3 kJ kI kB) s) (V : hx_V D A s.heap H locs ws) {index : Nat} (L : hx_LA own index) (q0 q1 : Nat) {a0 n0 n1 : Nat} {f g : Nat → Int32} (ha0 : ws[q0]? = some (a0, .inl (kI, n0, .inl f))) (ha1 : ws[q1]? = some (a, .inl (kI, n1, .inl g))) {sp dp n : Int32} (ho : hx_cpo sp dp n n0 n1)
    (hframes : 1 ≤ R.frames) (hlocals : (rest.map fun v => v.category).sum + (nativeFrameWords "java/lang/System" "arraycopy" 5 + 11) ≤ R.locals) {ws' : va_W} (hw : ws.set q1 (a, .inl (kI, n1, .inl (va_cpy f g sp.toNatClampNeg dp.toNatClampNeg n.toNatClampNeg))) = ws') (hdg : decode cc pc = .ok (.invokestatic index, 3))
    (kk : ∀ (H1 : Heap) (locs1 : List Loc), hx_V D A s.heap H1 locs1 ws' → W p l e R s m args below meth c H1 locs1 cells slots Q (F0 m (pc + 3) ls rest)) : W p l e R s m args below meth c H locs cells slots Q (F0 m pc ls (.int n :: .int dp :: .ref a :: .int sp :: .ref a0 :: rest)) := by
  subst hw
  have hB := F.2.2.2.2
  exact va_copyi F.1 F.2.1 (F.2.2.1.trans hsz.symm) F.2.2.2.1 (hB _ L.1) (hB _ L.2.1) (hB _ L.2.2.1) (hB _ L.2.2.2) hK V.1 V.2.1 V.2.2 q0 q1 1 1 (ty := .int) ha0 ha1 rfl rfl rfl ho.1 ho.2.1 ho.2.2.1 ho.2.2.2.1 ho.2.2.2.2 (fun _ _ => rfl) hframes hlocals hdg (fun H1 l1 x y z => kk H1 l1 ⟨x, y, z⟩)
theorem hx_copyl (F : CallFix p m c cc nL s args hx_B own) (hsz : ls.size = nL) (hK : va_K D vwCl (hx_K3 kJ kI kB) s) (V : hx_V D A s.heap H locs ws) {index : Nat} (L : hx_LA own index) (q0 q1 : Nat) {a0 n0 n1 : Nat} {f g : Nat → Int64} (ha0 : ws[q0]? = some (a0, .inl (kJ, n0, .inr (.inl f)))) (ha1 : ws[q1]? = some (a, .inl (kJ, n1, .inr (.inl g)))) {sp dp n : Int32} (ho : hx_cpo sp dp n n0 n1)
    (hframes : 1 ≤ R.frames) (hlocals : (rest.map fun v => v.category).sum + (nativeFrameWords "java/lang/System" "arraycopy" 5 + 11) ≤ R.locals) {ws' : va_W} (hw : ws.set q1 (a, .inl (kJ, n1, .inr (.inl (va_cpy f g sp.toNatClampNeg dp.toNatClampNeg n.toNatClampNeg)))) = ws') (hdg : decode cc pc = .ok (.invokestatic index, 3))
    (kk : ∀ (H1 : Heap) (locs1 : List Loc), hx_V D A s.heap H1 locs1 ws' → W p l e R s m args below meth c H1 locs1 cells slots Q (F0 m (pc + 3) ls rest)) : W p l e R s m args below meth c H locs cells slots Q (F0 m pc ls (.int n :: .int dp :: .ref a :: .int sp :: .ref a0 :: rest)) := by
  subst hw
  have hB := F.2.2.2.2
  exact va_copyl F.1 F.2.1 (F.2.2.1.trans hsz.symm) F.2.2.2.1 (hB _ L.1) (hB _ L.2.1) (hB _ L.2.2.1) (hB _ L.2.2.2) hK V.1 V.2.1 V.2.2 q0 q1 0 0 (ty := .long) ha0 ha1 rfl rfl rfl ho.1 ho.2.1 ho.2.2.1 ho.2.2.2.1 ho.2.2.2.2 (fun _ _ => rfl) hframes hlocals hdg (fun H1 l1 x y z => kk H1 l1 ⟨x, y, z⟩)
/-- new arrays and objects -/
theorem hx_newJ (F : CallFix p m c cc nL s args hx_B own) (hK : va_K D vwCl (hx_K3 kJ kI kB) s) (hA : ∀ q, s.heap.size ≤ q → A q) (V : hx_V D A s.heap H locs ws) (harr : Cond.arrayClass .long ∈ hx_B) {n : Int32} {N : Nat} (hn : ¬ n < 0) (hN : n.toNatClampNeg = N) (hbytes : N * componentBytes .long ≤ 536870912) (hcells : cells + 1 ≤ R.cells) (hslots : slots + N ≤ R.slots) (hdg : decode cc pc = .ok (.newarray .long, 2))
    (kk : ∀ (q : Nat) (H1 : Heap), hx_V D A s.heap H1 locs (ws ++ [(q, .inl (kJ, N, .inr (.inl (fun _ => 0))))]) → W p l e R s m args below meth c H1 locs (cells + 1) (slots + N) Q (F0 m (pc + 2) ls (.ref q :: rest))) : W p l e R s m args below meth c H locs cells slots Q (F0 m pc ls (.int n :: rest)) := by
  refine va_newa (atype := .long) F.1 F.2.1 (F.2.2.2.2 _ harr) (ty := .long) rfl hK V.1 V.2.1 V.2.2 hA (a0 := (N, .inr (.inl (fun _ => 0)))) (fun _ => rfl) hn hN hbytes hcells hslots hdg (fun q cA H1 hK1 hP hD hS => ?_)
  obtain rfl : cA = kJ := Option.some.inj ((hK1.2 3 (cA, .long) rfl).2.symm.trans (hK.2 0 (kJ, .long) rfl).2)
  exact kk q H1 ⟨hP, hD, hS⟩
theorem hx_newI (F : CallFix p m c cc nL s args hx_B own) (hK : va_K D vwCl (hx_K3 kJ kI kB) s) (hA : ∀ q, s.heap.size ≤ q → A q) (V : hx_V D A s.heap H locs ws) (harr : Cond.arrayClass .int ∈ hx_B) {n : Int32} {N : Nat} (hn : ¬ n < 0) (hN : n.toNatClampNeg = N) (hbytes : N * componentBytes .int ≤ 536870912) (hcells : cells + 1 ≤ R.cells) (hslots : slots + N ≤ R.slots) (hdg : decode cc pc = .ok (.newarray .int, 2))
    (kk : ∀ (q : Nat) (H1 : Heap), hx_V D A s.heap H1 locs (ws ++ [(q, .inl (kI, N, .inl (fun _ => 0)))]) → W p l e R s m args below meth c H1 locs (cells + 1) (slots + N) Q (F0 m (pc + 2) ls (.ref q :: rest))) : W p l e R s m args below meth c H locs cells slots Q (F0 m pc ls (.int n :: rest)) := by
  refine va_newa (atype := .int) F.1 F.2.1 (F.2.2.2.2 _ harr) (ty := .int) rfl hK V.1 V.2.1 V.2.2 hA (a0 := (N, .inl (fun _ => 0))) (fun _ => rfl) hn hN hbytes hcells hslots hdg (fun q cA H1 hK1 hP hD hS => ?_)
  obtain rfl : cA = kI := Option.some.inj ((hK1.2 3 (cA, .int) rfl).2.symm.trans (hK.2 1 (kI, .int) rfl).2)
  exact kk q H1 ⟨hP, hD, hS⟩
theorem hx_newB (F : CallFix p m c cc nL s args hx_B own) (hK : va_K D vwCl (hx_K3 kJ kI kB) s) (hA : ∀ q, s.heap.size ≤ q → A q) (V : hx_V D A s.heap H locs ws) (harr : Cond.arrayClass .byte ∈ hx_B) {n : Int32} {N : Nat} (hn : ¬ n < 0) (hN : n.toNatClampNeg = N) (hbytes : N * componentBytes .byte ≤ 536870912) (hcells : cells + 1 ≤ R.cells) (hslots : slots + N ≤ R.slots) (hdg : decode cc pc = .ok (.newarray .byte, 2))
    (kk : ∀ (q : Nat) (H1 : Heap), hx_V D A s.heap H1 locs (ws ++ [(q, .inl (kB, N, .inl (fun _ => 0)))]) → W p l e R s m args below meth c H1 locs (cells + 1) (slots + N) Q (F0 m (pc + 2) ls (.ref q :: rest))) : W p l e R s m args below meth c H locs cells slots Q (F0 m pc ls (.int n :: rest)) := by
  refine va_newa (atype := .byte) F.1 F.2.1 (F.2.2.2.2 _ harr) (ty := .byte) rfl hK V.1 V.2.1 V.2.2 hA (a0 := (N, .inl (fun _ => 0))) (fun _ => rfl) hn hN hbytes hcells hslots hdg (fun q cA H1 hK1 hP hD hS => ?_)
  obtain rfl : cA = kB := Option.some.inj ((hK1.2 3 (cA, .byte) rfl).2.symm.trans (hK.2 2 (kB, .byte) rfl).2)
  exact kk q H1 ⟨hP, hD, hS⟩
/-- a class link whose class has the number ci, N slots, and starts as fs -/
def hx_NC (own : String) (index ci N : Nat) (fs : List Value) : Prop := ∃ (C : String) (T : u_T) (ty : Nat → FieldType), vwCl[ci]? = some (C, T, N) ∧ (∀ w ∈ u_ws C T N, w ∈ hx_B) ∧ (∀ k, k < N → parseFieldDescriptor (T k).2.2.1 = some (ty k)) ∧ Cond.classLink own index C ∈ hx_B ∧ Cond.instantiable C N ∈ hx_B ∧ Cond.initialized C ∈ hx_B ∧ ∀ j, j < N → defaultValue (ty j) = vp_V fs j
theorem hx_new (F : CallFix p m c cc nL s args hx_B own) (hK : va_K D vwCl (hx_K3 kJ kI kB) s) (hA : ∀ q, s.heap.size ≤ q → A q) (V : hx_V D A s.heap H locs ws) {index ci N : Nat} {fs : List Value} (L : hx_NC own index ci N fs) (hcells : cells + 1 ≤ R.cells) (hslots : slots + N ≤ R.slots) (hdg : decode cc pc = .ok (.new index, 3))
    (kk : ∀ (q : Nat) (H1 : Heap), hx_V D A s.heap H1 locs (ws ++ [(q, .inr (ci, fs))]) → W p l e R s m args below meth c H1 locs (cells + 1) (slots + N) Q (F0 m (pc + 3) ls (.ref q :: rest))) : W p l e R s m args below meth c H locs cells slots Q (F0 m pc ls rest) := by
  obtain ⟨C, T, ty, h1, h2, h3, h4, h5, h6, h7⟩ := L
  exact va_new F.1 F.2.1 F.2.2.2.2 h2 ty h3 F.2.2.2.1 (F.2.2.2.2 _ h4) (F.2.2.2.2 _ h5) (F.2.2.2.2 _ h6) hK V.1 V.2.1 V.2.2 hA h1 h7 hcells hslots hdg (fun q H1 hP hD hS => kk q H1 ⟨hP, hD, hS⟩)
theorem hx_pre (hK : va_K D vwCl (hx_K3 kJ kI kB) s) (hZ : hx_ST tC tS A s s.heap) (hA : ∀ q, s.heap.size ≤ q → A q) (V : hx_V D A s.heap H locs ws) (K : hx_Cut ws wc wr isC isR) {av : List Value} : ∀ U : State, U.heap = H → s.WarmedH U.vm → va_Pc av (hx_I D kJ kI kB tC tS wc H.size) av.toArray U :=
  fun U hU hW => ⟨rfl, by rw [hU], by rw [hU]; exact V.1.sub isC (hx_fm K.1), va_K.moved hW.alike hK, (V.2.1.sub isC K.2.2.1 K.1).weaken (fun _ _ _ _ => trivial), by rw [hU]; exact hx_ST.go hW V.2.2.2.1 (va_free V.2.1 V.2.2 hA isC K.1) hZ⟩
variable {y x : MethodName} {bytes : ByteArray} {maxL n index : Nat} {ret : Option FieldType} {rm : Room} {C owner : String} {b : Nat} {As : List Value} {mc ms : Nat} {Qc : Array Value → State → Outcome → State → Prop}
theorem hx_rV (F : CallFix p m c cc nL s args hx_B own) (hK : va_K D vwCl (hx_K3 kJ kI kB) s) (hZ : hx_ST tC tS A s s.heap) (hA : ∀ q, s.heap.size ≤ q → A q) (V : hx_V D A s.heap H locs ws) (K : hx_Cut ws wc wr isC isR) (L : hx_LV own index C y bytes maxL ret n)
    (hM : Met l y (.code y bytes maxL ret :: hx_B) rm (va_Pc (.ref b :: As) (hx_I D kJ kI kB tC tS wc H.size)) Qc mc ms (va_A wc H.size)) (hrc : rm.cells = mc) (hrs : rm.slots = ms) (hR : rm.frames + 1 ≤ R.frames ∧ 8 + (maxL + 11) + rm.locals ≤ R.locals) {q0 ci : Nat} {fs : List Value} {q : vw_C} (he : ws[q0]? = some (b, .inr (ci, fs))) (hc : vwCl[ci]? = some q) (hq : q.1 = C)
    (hn : As.length = n) (hsize : ls.size = nL) (hst : st0 = As.reverse ++ .ref b :: rest) (hW : (rest.map fun v => v.category).sum ≤ 8) (hdg : decode cc pc = .ok (.invokevirtual index, 3)) (hf : cells + mc ≤ R.cells ∧ slots + ms ≤ R.slots) :
    va_Run p l e R s m args below meth c H locs cells slots mc ms (F0 m pc ls st0) rest (Qc (Value.ref b :: As).toArray) (va_A wc H.size) :=
  va_runV F hM (cwV n F.2.2.2.2 L.1 rfl hrc hrs L.2 hR) ⟨hx_blind, hq ▸ va_recv hK V.1 hc he, hx_pre hK hZ hA V K⟩ rfl hn hsize hst (lv_room hW) hdg hf
theorem hx_rU (F : CallFix p m c cc nL s args hx_B own) (hK : va_K D vwCl (hx_K3 kJ kI kB) s) (hZ : hx_ST tC tS A s s.heap) (hA : ∀ q, s.heap.size ≤ q → A q) (V : hx_V D A s.heap H locs ws) (K : hx_Cut ws wc wr isC isR) (L : hx_LU own index C owner x y bytes maxL ret n)
    (hM : Met l y (.code y bytes maxL ret :: hx_B) rm (va_Pc (.ref b :: As) (hx_I D kJ kI kB tC tS wc H.size)) Qc mc ms (va_A wc H.size)) (hrc : rm.cells = mc) (hrs : rm.slots = ms) (hR : rm.frames + 1 ≤ R.frames ∧ 8 + (maxL + 11) + rm.locals ≤ R.locals) {q0 ci : Nat} {fs : List Value} {q : vw_C} (he : ws[q0]? = some (b, .inr (ci, fs))) (hc : vwCl[ci]? = some q) (hq : q.1 = C)
    (hn : As.length = n) (hsize : ls.size = nL) (hst : st0 = As.reverse ++ .ref b :: rest) (hW : (rest.map fun v => v.category).sum ≤ 8) (hdg : decode cc pc = .ok (.invokevirtual index, 3)) (hf : cells + mc ≤ R.cells ∧ slots + ms ≤ R.slots) :
    va_Run p l e R s m args below meth c H locs cells slots mc ms (F0 m pc ls st0) rest (Qc (Value.ref b :: As).toArray) (va_A wc H.size) := by
  refine va_runU F hM ?_ ⟨hx_blind, hq ▸ va_recv hK V.1 hc he, hx_pre hK hZ hA V K⟩ rfl hn hsize hst (lv_room hW) hdg hf (C := C) (owner := owner) (x := x) (bytes := bytes) (maxL := maxL) (ret := ret) (n := n)
  rcases L.2.2 with h | h
  · exact va_cwU n F.2.2.2.2 L.1 rfl hrc hrs h L.2.1 hR
  · exact va_cwA n F.2.2.2.2 L.1 rfl hrc hrs (hZ.2.2 _ h) L.2.1 hR
theorem hx_rS (F : CallFix p m c cc nL s args hx_B own) (hK : va_K D vwCl (hx_K3 kJ kI kB) s) (hZ : hx_ST tC tS A s s.heap) (hA : ∀ q, s.heap.size ≤ q → A q) (V : hx_V D A s.heap H locs ws) (K : hx_Cut ws wc wr isC isR) (L : hx_LS own index y bytes maxL ret n)
    (hM : Met l y (.code y bytes maxL ret :: hx_B) rm (va_Pc As (hx_I D kJ kI kB tC tS wc H.size)) Qc mc ms (va_A wc H.size)) (hrc : rm.cells = mc) (hrs : rm.slots = ms) (hR : rm.frames + 1 ≤ R.frames ∧ 8 + (maxL + 11) + rm.locals ≤ R.locals)
    (hn : As.length = n) (hsize : ls.size = nL) (hst : st0 = As.reverse ++ rest) (hW : (rest.map fun v => v.category).sum ≤ 8) (hdg : decode cc pc = .ok (.invokestatic index, 3)) (hf : cells + mc ≤ R.cells ∧ slots + ms ≤ R.slots) :
    va_Run p l e R s m args below meth c H locs cells slots mc ms (F0 m pc ls st0) rest (Qc As.toArray) (va_A wc H.size) :=
  va_runS F hM (cwS n F.2.2.2.2 L.1 rfl hrc hrs L.2 hR) ⟨hx_blind, hx_pre hK hZ hA V K⟩ rfl hn hsize hst (lv_room hW) hdg hf
theorem hx_rI (F : CallFix p m c cc nL s args hx_B own) (hK : va_K D vwCl (hx_K3 kJ kI kB) s) (hZ : hx_ST tC tS A s s.heap) (hA : ∀ q, s.heap.size ≤ q → A q) (V : hx_V D A s.heap H locs ws) (K : hx_Cut ws wc wr isC isR) (L : hx_LI own index y bytes maxL n)
    (hM : Met l y (.code y bytes maxL none :: hx_B) rm (va_Pc (.ref b :: As) (hx_I D kJ kI kB tC tS wc H.size)) Qc mc ms (va_A wc H.size)) (hrc : rm.cells = mc) (hrs : rm.slots = ms) (hR : rm.frames + 1 ≤ R.frames ∧ 8 + (maxL + 11) + rm.locals ≤ R.locals)
    (hn : As.length = n) (hsize : ls.size = nL) (hst : st0 = As.reverse ++ .ref b :: rest) (hW : (rest.map fun v => v.category).sum ≤ 8) (hdg : decode cc pc = .ok (.invokespecial index, 3)) (hf : cells + mc ≤ R.cells ∧ slots + ms ≤ R.slots) :
    va_Run p l e R s m args below meth c H locs cells slots mc ms (F0 m pc ls st0) rest (Qc (Value.ref b :: As).toArray) (va_A wc H.size) :=
  va_runI F hM (cwI n F.2.2.2.2 L.1 rfl hrc hrs (F.2.2.2.2 _ L.2.1) (F.2.2.2.2 _ L.2.2.1) (F.2.2.2.2 _ L.2.2.2.1) L.2.2.2.2.1 L.2.2.2.2.2 hR) ⟨hx_blind, hx_pre hK hZ hA V K⟩ rfl hn hsize hst (lv_room hW) hdg hf
theorem hx_rN {host : String} (F : CallFix p m c cc nL s args hx_B own) (hK : va_K D vwCl (hx_K3 kJ kI kB) s) (hZ : hx_ST tC tS A s s.heap) (hA : ∀ q, s.heap.size ≤ q → A q) (V : hx_V D A s.heap H locs ws) (K : hx_Cut ws wc wr isC isR) (L : hx_LN own index y host bytes maxL n)
    (hM : Met l y (.code y bytes maxL none :: hx_B) rm (va_Pc (.ref b :: As) (hx_I D kJ kI kB tC tS wc H.size)) Qc mc ms (va_A wc H.size)) (hrc : rm.cells = mc) (hrs : rm.slots = ms) (hR : rm.frames + 1 ≤ R.frames ∧ 8 + (maxL + 11) + rm.locals ≤ R.locals)
    (hn : As.length = n) (hsize : ls.size = nL) (hst : st0 = As.reverse ++ .ref b :: rest) (hW : (rest.map fun v => v.category).sum ≤ 8) (hdg : decode cc pc = .ok (.invokespecial index, 3)) (hf : cells + mc ≤ R.cells ∧ slots + ms ≤ R.slots) :
    va_Run p l e R s m args below meth c H locs cells slots mc ms (F0 m pc ls st0) rest (Qc (Value.ref b :: As).toArray) (va_A wc H.size) :=
  va_runIN F hM ⟨va_cnB n F.2.2.2.2 L.1 rfl hrc hrs (hZ.2.2 _ L.2.2.1) (F.2.2.2.2 _ L.2.1) L.2.2.2.2.2 hR, L.2.2.2.2.1, F.2.2.2.2 _ L.2.2.2.1⟩ ⟨hx_blind, hx_pre hK hZ hA V K⟩ rfl hn hsize hst (lv_room hW) hdg hf
variable {S : Type} {B : S → va_W} {av : Array Value}
theorem hx_ci {post : Int32 → S → Prop} (hA : ∀ q, s.heap.size ≤ q → A q) (V : hx_V D A s.heap H locs ws) (K : hx_Cut ws wc wr isC isR)
    (hr : va_Run p l e R s m args below meth c H locs cells slots 0 0 (F0 m pc ls st0) rest (va_Qi post (fun u t => va_P D vwCl (B u) t.heap ∧ va_D (va_A wc H.size) (B u)) (va_A wc H.size) av) (va_A wc H.size))
    (kk : ∀ (r : Int32) (u : S) (H1 : Heap) (locs1 : List Loc), post r u → hx_V D A s.heap H1 locs1 (wr ++ B u) → W p l e R s m args below meth c H1 locs1 cells slots Q (F0 m (pc + 3) ls (.int r :: rest))) : W p l e R s m args below meth c H locs cells slots Q (F0 m pc ls st0) := by
  have hF := va_free V.2.1 V.2.2 hA isC K.1
  refine va_calli hr V.2.2 (fun q _ h => hF q h) hF (fun r u t H1 locs1 ht hvm hp hB hz hk hS => ?_)
  obtain ⟨hP1, hD1⟩ := hB
  rw [ht] at hP1
  obtain ⟨hP, hD⟩ := va_join V.1 V.2.1 isC isR K.1 K.2.1 K.2.2.2.1 K.2.2.2.2 hk hF hP1 hD1
  exact kk r u H1 locs1 hp ⟨hP, hD, hS⟩
theorem hx_cl {post : Int64 → S → Prop} (hA : ∀ q, s.heap.size ≤ q → A q) (V : hx_V D A s.heap H locs ws) (K : hx_Cut ws wc wr isC isR)
    (hr : va_Run p l e R s m args below meth c H locs cells slots 0 0 (F0 m pc ls st0) rest (va_Ql post (fun u t => va_P D vwCl (B u) t.heap ∧ va_D (va_A wc H.size) (B u)) (va_A wc H.size) av) (va_A wc H.size))
    (kk : ∀ (r : Int64) (u : S) (H1 : Heap) (locs1 : List Loc), post r u → hx_V D A s.heap H1 locs1 (wr ++ B u) → W p l e R s m args below meth c H1 locs1 cells slots Q (F0 m (pc + 3) ls (.long r :: rest))) : W p l e R s m args below meth c H locs cells slots Q (F0 m pc ls st0) := by
  have hF := va_free V.2.1 V.2.2 hA isC K.1
  refine va_calll hr V.2.2 (fun q _ h => hF q h) hF (fun r u t H1 locs1 ht hvm hp hB hz hk hS => ?_)
  obtain ⟨hP1, hD1⟩ := hB
  rw [ht] at hP1
  obtain ⟨hP, hD⟩ := va_join V.1 V.2.1 isC isR K.1 K.2.1 K.2.2.2.1 K.2.2.2.2 hk hF hP1 hD1
  exact kk r u H1 locs1 hp ⟨hP, hD, hS⟩
theorem hx_cv {post : S → Prop} (hA : ∀ q, s.heap.size ≤ q → A q) (V : hx_V D A s.heap H locs ws) (K : hx_Cut ws wc wr isC isR)
    (hr : va_Run p l e R s m args below meth c H locs cells slots mc ms (F0 m pc ls st0) rest (va_Qv post (fun u t => va_P D vwCl (B u) t.heap ∧ va_D (va_A wc H.size) (B u)) (va_A wc H.size) av) (va_A wc H.size))
    (kk : ∀ (u : S) (H1 : Heap) (locs1 : List Loc), post u → hx_V D A s.heap H1 locs1 (wr ++ B u) → W p l e R s m args below meth c H1 locs1 (cells + mc) (slots + ms) Q (F0 m (pc + 3) ls rest)) : W p l e R s m args below meth c H locs cells slots Q (F0 m pc ls st0) := by
  have hF := va_free V.2.1 V.2.2 hA isC K.1
  refine va_callv hr V.2.2 (fun q _ h => hF q h) hF (fun u t H1 locs1 ht hvm hp hB hz hk hS => ?_)
  obtain ⟨hP1, hD1⟩ := hB
  rw [ht] at hP1
  obtain ⟨hP, hD⟩ := va_join V.1 V.2.1 isC isR K.1 K.2.1 K.2.2.2.1 K.2.2.2.2 hk hF hP1 hD1
  exact kk u H1 locs1 hp ⟨hP, hD, hS⟩
end HXR
