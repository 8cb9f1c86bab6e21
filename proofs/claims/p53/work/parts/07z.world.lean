/-! the world: what lies in the heap -/
/-- classes; array classes by their type; where the texts lie; from where on the cells of the world lie; free -/
abbrev Gp : Type := va_G × (Nat → ClassId) × (Nat → Nat) × Nat × Nat
def cv (G : Gp) (ad : Nat → Nat → Nat) : Av → Value
  | .inl x => .int x
  | .inr (.inl x) => .long x
  | .inr (.inr (.inl x)) => .float x
  | .inr (.inr (.inr (.inl x))) => .double x
  | .inr (.inr (.inr (.inr (.inl q)))) => .ref (ad q.1 q.2)
  | .inr (.inr (.inr (.inr (.inr (.inl j))))) => .ref (G.2.2.1 j)
  | .inr (.inr (.inr (.inr (.inr (.inr a))))) => cond (Nat.beq a 0) .null (.ref (G.2.2.1 (txn + a)))
def aty : Nat → FieldType
  | 0 => .int
  | 1 => .byte
  | 2 => .long
  | 3 => .double
  | 4 => .array .int
  | _ => .object "BallotBus$State"
def tyl (G : Gp) : List (ClassId × FieldType) := [(G.2.1 0, aty 0), (G.2.1 1, aty 1), (G.2.1 2, aty 2), (G.2.1 0, aty 0), (G.2.1 4, aty 4), (G.2.1 5, aty 5)]
def adq (ad : Nat → Nat → Nat) (r : Option (Nat × Nat)) : Option Nat := r.map (fun q => ad q.1 q.2)
def fv (ad : Nat → Nat → Nat) (z : Zz) (X : Mm) (k i c j : Nat) : Value :=
  match ft c j with
  | 2 => .long (gJ X k i j)
  | 3 => va_rf (adq ad (z.2.1 k i j))
  | _ => .int (gI X k i j)
def arc (ad : Nat → Nat → Nat) (z : Zz) (X : Mm) (k i t : Nat) : (Nat → Int32) ⊕ (Nat → Int64) ⊕ (Nat → UInt32) ⊕ (Nat → UInt64) ⊕ (Nat → Option Nat) :=
  match t with
  | 0 => .inl (gI X k i)
  | 1 => .inl (gI X k i)
  | 2 => .inr (.inl (gJ X k i))
  | 3 => .inr (.inr (.inr (.inl (gD X k i))))
  | _ => .inr (.inr (.inr (.inr (fun j => adq ad (z.2.1 k i j)))))
def cel (G : Gp) (ad : Nat → Nat → Nat) (z : Zz) (X : Mm) (k i : Nat) : va_E :=
  match shp k with
  | (0, c, n) => .inr (c, (List.range n).map (fv ad z X k i c))
  | (_, t, _) => .inl (G.2.1 t, aln z k, arc ad z X k i t)
def okv (z : Zz) : Av → Prop
  | .inr (.inr (.inr (.inr (.inl q)))) => q.2 < z.1 q.1
  | .inr (.inr (.inr (.inr (.inr (.inl j))))) => j < txn
  | _ => True
def oks (z : Zz) (st : List Av) : Prop := ∀ v ∈ st, okv z v
def okl (z : Zz) (ls : Lo) : Prop := ∀ q ∈ ls, okv z q.2
def cvq (G : Gp) (ad : Nat → Nat → Nat) (q : Nat × Av) : Nat × Value := (q.1, cv G ad q.2)
/-- the cells that may not be of the world -/
abbrev A0 (G : Gp) : Nat → Prop := fun q => G.2.2.2.1 ≤ q
/-- the cell of the script: an array of ints of some class, the number of which is kept in G; it lies apart from the world -/
def SX (G : Gp) (a L : Nat) (f : Nat → Int32) (H : Heap) : Prop := ∃ scr : Cell, H[a]? = some scr ∧ scr.cls = G.2.2.2.2 ∧ (∀ k, scr.vm ≠ .statics k) ∧ scr.vm ≠ .unknown ∧ scr.slots.size = L ∧ ∀ j : Nat, j < L → scr.slots[j]? = some (.int (f j))
/-- a cell of the world, at its address -/
def cat (G : Gp) (ad : Nat → Nat → Nat) (z : Zz) (X : Mm) (k i a : Nat) (H : Heap) : Prop := (Nat.beq k 68 = false → va_at G.1 vcl (a, cel G ad z X k i) H) ∧ (k = 68 → SX G a z.2.2.1 (gI X 68 i) H)
/-- the heap holds the memory -/
def Hp (G : Gp) (ad : Nat → Nat → Nat) (z : Zz) (X : Mm) (H : Heap) : Prop :=
  (∀ k i, i < z.1 k → cat G ad z X k i (ad k i) H) ∧
  (∀ k i k' i', i < z.1 k → i' < z.1 k' → ad k i = ad k' i' → k = k' ∧ i = i') ∧
  (∀ k i, i < z.1 k → k ≠ 68 → G.2.2.2.1 ≤ ad k i) ∧ G.2.2.2.1 ≤ H.size ∧
  (∀ k i j q, i < z.1 k → j < aln z k → z.2.1 k i j = some q → q.2 < z.1 q.1)
/-- until all is made: what isn't made yet is empty -/
def Df (z : Zz) (X : Mm) : Prop := z.1 = nF ∨ ∀ k i, z.1 k ≤ i → ∀ j, gI X k i j = 0 ∧ gJ X k i j = 0 ∧ gD X k i j = 0
/-- two memories agree outside what may be written -/
def Ag (wp : Nat → Nat → Prop) (X Y : Mm) : Prop := ∀ k i, ¬ wp k i → ∀ j, gI Y k i j = gI X k i j ∧ gJ Y k i j = gJ X k i j ∧ gD Y k i j = gD X k i j
def Afr (ad : Nat → Nat → Nat) (z : Zz) (wp : Nat → Nat → Prop) (sz : Nat) : Nat → Prop := fun q => (∃ k i, wp k i ∧ i < z.1 k ∧ q = ad k i) ∨ sz ≤ q
def exn (x : Nat) : String := ["java/lang/IndexOutOfBoundsException", "java/lang/IllegalArgumentException", "java/lang/IllegalStateException", "java/util/NoSuchElementException"].getD x ""
def exUp : List String := ["java/lang/RuntimeException", "java/lang/Exception", "java/lang/Throwable"]
theorem ao_S {u U : State} (hvm : u.vm.Alike U.vm) (h : (Cond.arrayOver (.object "BallotBus$State")).before #[] u = true) : (Cond.arrayOver (.object "BallotBus$State")).before #[] U = true := va_AO.moved hvm h
theorem ao_I {u U : State} (hvm : u.vm.Alike U.vm) (h : (Cond.arrayOver (.array .int)).before #[] u = true) : (Cond.arrayOver (.array .int)).before #[] U = true := by
  have hi : ∀ comp : ClassId, (U.vm.classes.findIdx? fun (x : Class) => match x.kind with | .array component _ => component == comp | _ => false) = (u.vm.classes.findIdx? fun (x : Class) => match x.kind with | .array component _ => component == comp | _ => false) := fun comp => by
    have a := va_idx_bare U.vm comp
    have b := va_idx_bare u.vm comp
    have e : U.vm.bare = u.vm.bare := by first | exact hvm.bare_eq | exact hvm.bare_eq.symm
    rw [e] at a
    exact a.symm.trans b
  have hm : ∀ c : ClassId, (U.vm.classes[c]?).map (fun k : Class => k.kind) = (u.vm.classes[c]?).map (fun k : Class => k.kind) := fun c => by
    have a : (U.vm.bare.classes[c]?).map (fun k : Class => k.kind) = (U.vm.classes[c]?).map (fun k : Class => k.kind) := by
      simp only [Vm.bare, Array.getElem?_map, Option.map_map]
      rfl
    have b : (u.vm.bare.classes[c]?).map (fun k : Class => k.kind) = (u.vm.classes[c]?).map (fun k : Class => k.kind) := by
      simp only [Vm.bare, Array.getElem?_map, Option.map_map]
      rfl
    have e : U.vm.bare = u.vm.bare := by first | exact hvm.bare_eq | exact hvm.bare_eq.symm
    rw [← a, ← b, e]
  unfold Cond.before Cond.holds at h ⊢
  simp only [Cond.value, beq_iff_eq] at h ⊢
  simp only [hvm.findClass]
  cases hc : u.vm.findClass (FieldType.array .int).toString with
  | none => simp [hc] at h
  | some comp =>
    simp only [hc, Option.bind_some, Option.bind_eq_some_iff, Option.map_eq_some_iff] at h ⊢
    obtain ⟨c, h1, k, hk, hb⟩ := h
    refine ⟨c, (hi comp).trans h1, ?_⟩
    have := hm c
    rw [hk] at this
    cases hk' : U.vm.classes[c]? with
    | none => rw [hk'] at this; cases this
    | some k' =>
      rw [hk'] at this
      have e : k'.kind = k.kind := Option.some.inj this
      exact ⟨k', rfl, by rw [e]; exact hb⟩
/-- arrays over references, for those that are made of them -/
def aoW (U : State) : Prop := (Cond.arrayOver (.object "BallotBus$State")).before #[] U = true ∧ (Cond.arrayOver (.array .int)).before #[] U = true
/-- the script's class -/
def scW (G : Gp) (U : State) : Prop := ∃ (k : Class) (comp : ClassId), U.vm.classes[G.2.2.2.2]? = some k ∧ k.kind = .array comp .int
theorem scW.moved {G : Gp} {u U : State} (hvm : u.vm.Alike U.vm) (h : scW G u) : scW G U := by
  obtain ⟨k, comp, h1, h2⟩ := h
  obtain ⟨k', hk', he⟩ := hvm.2.2 _ _ h1
  exact ⟨k', comp, hk', by rw [he]; exact h2⟩
/-- what the tables say -/
def Kt (G : Gp) (U : State) : Prop := va_K G.1 vcl (tyl G) U ∧ (∀ (j : Nat) (q : Nat × Nat × String), stl[j]? = some q → vk_R (RN q.1) q.2.1 q.2.2 (G.2.2.1 (dxl.getD j 0)) U) ∧
  (∀ e ∈ MNd, va_Nw (mkN e) U) ∧ (∀ x, x < 4 → va_Nw (.castable (exn x) (exn x)) U) ∧ (∀ x ∈ exUp, va_Nw (.declares (Bundle.initS x)) U) ∧ True ∧ aoW U ∧ scW G U ∧ va_Nw (.castable "[B" "java/lang/Cloneable") U
/-- the rows of digits of the JDK's whole numbers: units (1), tens (2) -/
def dgt (t j : Nat) : Int32 := nI (48 + cond (Nat.beq t 1) (j % 10) (j / 10))
def Kd (G : Gp) (U : State) (H : Heap) : Prop :=
  (va_Z "java/lang/Integer" "DigitOnes" "[B" (.ref (G.2.2.1 (txn + 1))) (A0 G) U H ∧ va_T .byte (G.2.2.1 (txn + 1)) 100 (fun j => .int (dgt 1 j)) (A0 G) U H) ∧
  (va_Z "java/lang/Integer" "DigitTens" "[B" (.ref (G.2.2.1 (txn + 2))) (A0 G) U H ∧ va_T .byte (G.2.2.1 (txn + 2)) 100 (fun j => .int (dgt 2 j)) (A0 G) U H) ∧
  ∀ j, j < txn → va_OF "java/lang/String" "value" "[B" (.ref (G.2.2.1 (txn + (3 + j)))) (G.2.2.1 j) (A0 G) U H ∧ va_T .byte (G.2.2.1 (txn + (3 + j))) (slen j) (fun i => .int (schr j i)) (A0 G) U H
theorem Kd.kept {G : Gp} {U : State} {H H1 : Heap} (h : Kd G U H) (hq : ∀ a : Nat, a < H.size → ¬ A0 G a → H1[a]? = H[a]?) : Kd G U H1 :=
  ⟨⟨h.1.1.kept hq, h.1.2.kept hq⟩, ⟨h.2.1.1.kept hq, h.2.1.2.kept hq⟩, fun j hj => ⟨(h.2.2 j hj).1.kept hq, (h.2.2 j hj).2.kept hq⟩⟩
theorem Kd.moved {G : Gp} {u U : State} {H : Heap} (hvm : u.vm.Alike U.vm) (h : Kd G u H) : Kd G U H :=
  ⟨⟨h.1.1.moved hvm, va_T.moved hvm h.1.2⟩, ⟨h.2.1.1.moved hvm, va_T.moved hvm h.2.1.2⟩, fun j hj => ⟨va_OF.moved hvm (h.2.2 j hj).1, va_T.moved hvm (h.2.2 j hj).2⟩⟩
/-- constants that lie in the heap, apart from the world -/
def Kh (G : Gp) (U : State) (H : Heap) : Prop :=
  vx_Zq Bundle.tN "UNASSIGNED_STACK" Bundle.steD (A0 G) U H ∧ vx_Zq Bundle.tN "SUPPRESSED_SENTINEL" Bundle.listD (A0 G) U H ∧
  (∃ adV : Nat → Nat, vk_S txn ((List.range txn).map slen) ((List.range txn).map txb) G.2.2.1 adV (A0 G) U H) ∧
  va_Z "java/lang/String" "COMPACT_STRINGS" "Z" (.int 1) (A0 G) U H ∧ va_Zq "jdk/internal/util/Preconditions" "SIOOBE_FORMATTER" "Ljava/util/function/BiFunction;" (A0 G) U H ∧ Kd G U H
theorem Kh.kept {G : Gp} {U : State} {H H1 : Heap} (h : Kh G U H) (hq : ∀ a : Nat, a < H.size → ¬ A0 G a → H1[a]? = H[a]?) : Kh G U H1 := by
  obtain ⟨h1, h2, ⟨adV, h3⟩, h4, h5, h6⟩ := h
  exact ⟨h1.kept hq, h2.kept hq, ⟨adV, h3.kept hq⟩, h4.kept hq, h5.kept hq, h6.kept hq⟩
theorem Kh.moved {G : Gp} {u U : State} {H : Heap} (hvm : u.vm.Alike U.vm) (h : Kh G u H) : Kh G U H := by
  obtain ⟨h1, h2, ⟨adV, h3⟩, h4, h5, h6⟩ := h
  exact ⟨h1.moved hvm, h2.moved hvm, ⟨adV, h3.moved hvm⟩, h4.moved hvm, h5.moved hvm, h6.moved hvm⟩
theorem Kt.warm {G : Gp} {s U : State} (hW : s.WarmedH U.vm) (h : Kt G s) : Kt G U := ⟨h.1.moved hW.alike, fun j q hj => (h.2.1 j q hj).warm hW, fun e he => va_Nw.warmM hW (h.2.2.1 e he), fun x hx => va_Nw.warmC hW (h.2.2.2.1 x hx), fun x hx => va_Nw.warmD hW (h.2.2.2.2.1 x hx), trivial, ⟨ao_S hW.alike h.2.2.2.2.2.2.1.1, ao_I hW.alike h.2.2.2.2.2.2.1.2⟩, h.2.2.2.2.2.2.2.1.moved hW.alike, va_Nw.warmC hW h.2.2.2.2.2.2.2.2⟩
theorem Ag.rf {wp : Nat → Nat → Prop} {X : Mm} : Ag wp X X := fun _ _ _ _ => ⟨rfl, rfl, rfl⟩
theorem Ag.tr {wp wp' : Nat → Nat → Prop} {X Y W : Mm} (h : Ag wp X Y) (hw : ∀ k i, wp' k i → wp k i) (h2 : Ag wp' Y W) : Ag wp X W := fun k i hn j => by
  obtain ⟨a1, a2, a3⟩ := h k i hn j
  obtain ⟨b1, b2, b3⟩ := h2 k i (fun q => hn (hw k i q)) j
  exact ⟨b1.trans a1, b2.trans a2, b3.trans a3⟩
def rmm (d mc ms : Nat) : Room := { frames := d, cells := mc, slots := ms, locals := 40 * d }
/-- the machine stands in method y -/
def Cx (y : Nat) (xt : List ExceptionTableEntry) (l : Launch) (G : Gp) (p : Program) (s : State) (m : MethodId) (args : Array Value) (meth : Method) (c : Code) : Prop :=
  p.tables.exec = Jvm.exec ∧ c.code = byt y ∧ c.maxLocals = mxl y ∧ s.vm.findClass (RN (cid y)) = some m.cls ∧ (∀ w ∈ TT, w.before args s = true) ∧ meth.locks = false ∧ meth.sig.returnType = rtt y ∧ l.stackTraces = false ∧ c.exceptionTable.toList = xt ∧ (isIni y = true → meth.name = "<init>") ∧ Kt G s ∧ Kh G s s.heap
/-- how far the walk is -/
def Cu (G : Gp) (ad0 : Nat → Nat → Nat) (wp : Nat → Nat → Prop) (z0 : Zz) (X0 : Mm) (s : State) (ad : Nat → Nat → Nat) (z : Zz) (X : Mm) (H : Heap) (locs : List Loc) (cells slots : Nat) : Prop :=
  Hp G ad z X H ∧ Df z X ∧ (∀ k i, i < z0.1 k → ad k i = ad0 k i ∧ i < z.1 k) ∧ (∀ k i, z0.1 k ≤ i → i < z.1 k → s.heap.size ≤ ad k i) ∧ Ag wp X0 X ∧
  va_S (Afr ad0 z0 wp s.heap.size) s.heap H locs ∧ cells ≤ z.2.2.2.1 ∧ slots ≤ z.2.2.2.2 ∧ z.2.2.1 = z0.2.2.1 ∧ (∀ q, Afr ad0 z0 wp s.heap.size q → A0 G q)
/-- an end of a method, seen in the heap t -/
def Ed (G : Gp) (ad0 : Nat → Nat → Nat) (wp : Nat → Nat → Prop) (z0 : Zz) (X0 : Mm) (sz : Nat) (ad : Nat → Nat → Nat) (z : Zz) (X : Mm) (H : Heap) : Prop :=
  Hp G ad z X H ∧ Df z X ∧ (∀ k i, i < z0.1 k → ad k i = ad0 k i ∧ i < z.1 k) ∧ (∀ k i, z0.1 k ≤ i → i < z.1 k → sz ≤ ad k i) ∧ Ag wp X0 X ∧ z.2.2.1 = z0.2.2.1
def Qcc (G : Gp) (ad0 : Nat → Nat → Nat) (wp : Nat → Nat → Prop) (z0 : Zz) (X0 : Mm) (sz : Nat) (QR : Option Av → Zz → Mm → Prop) : Array Value → State → Outcome → State → Prop := fun _ st o t =>
  (∃ (v : Option Av) (ad : Nat → Nat → Nat) (z : Zz) (X : Mm), o = .returned (v.map (cv G ad)) ∧ QR v z X ∧ Ed G ad0 wp z0 X0 sz ad z X t.heap ∧ ∀ w, v = some w → okv z w) ∧ va_F (Afr ad0 z0 wp sz) st t
def XCC (G : Gp) (ad0 : Nat → Nat → Nat) (wp : Nat → Nat → Prop) (z0 : Zz) (X0 : Mm) (sz : Nat) (QX : Nat → Zz → Mm → Prop) : String → State → State → Prop := fun E st t =>
  (∃ (x : Nat) (ad : Nat → Nat → Nat) (z : Zz) (X : Mm), E = exn x ∧ QX x z X ∧ Ed G ad0 wp z0 X0 sz ad z X t.heap) ∧ va_F (Afr ad0 z0 wp sz) st t
/-- from here, the method y comes to its end with what QR and QX say -/
def V (y : Nat) (xt : List ExceptionTableEntry) (d mc ms : Nat) (wp : Nat → Nat → Prop) (z0 : Zz) (X0 : Mm) (QR : Option Av → Zz → Mm → Prop) (QX : Nat → Zz → Mm → Prop) (z : Zz) (pc : Nat) (ls : Lo) (st : List Av) (X : Mm) : Prop :=
  ∀ (l : Launch) (G : Gp) (ad0 : Nat → Nat → Nat) (p : Program) (e : Env) (s : State) (m : MethodId) (args : Array Value) (below : List Frame) (meth : Method) (c : Code), Cx y xt l G p s m args meth c →
  ∀ (ad : Nat → Nat → Nat) (H : Heap) (locs : List Loc) (cells slots : Nat) (la : Array Slot), Cu G ad0 wp z0 X0 s ad z X H locs cells slots → lv_has la (mxl y) (ls.map (cvq G ad)) → okl z ls → oks z st →
  W p l e (rmm d mc ms) s m args below meth c H locs cells slots (vx_MQ below (Qcc G ad0 wp z0 X0 s.heap.size QR) (XCC G ad0 wp z0 X0 s.heap.size QX) args s mc ms (Afr ad0 z0 wp s.heap.size)) (F0 m pc la (st.map (cv G ad)))
/-- the same with exception x thrown at pc -/
def VX (y : Nat) (xt : List ExceptionTableEntry) (d mc ms : Nat) (wp : Nat → Nat → Prop) (z0 : Zz) (X0 : Mm) (QR : Option Av → Zz → Mm → Prop) (QX : Nat → Zz → Mm → Prop) (z : Zz) (pc : Nat) (ls : Lo) (x : Nat) (X : Mm) : Prop :=
  ∀ (l : Launch) (G : Gp) (ad0 : Nat → Nat → Nat) (p : Program) (e : Env) (s : State) (m : MethodId) (args : Array Value) (below : List Frame) (meth : Method) (c : Code), Cx y xt l G p s m args meth c →
  ∀ (ad : Nat → Nat → Nat) (H : Heap) (locs : List Loc) (cells slots : Nat) (la : Array Slot) (rest : List Value) (q : Addr) (ce : Cell), Cu G ad0 wp z0 X0 s ad z X H locs cells slots → lv_has la (mxl y) (ls.map (cvq G ad)) → okl z ls →
  H[q]? = some ce → ce.vm = .none → s.vm.findClass (exn x) = some ce.cls →
  vx_W p l e (rmm d mc ms) s m args below meth c H locs cells slots (vx_MQ below (Qcc G ad0 wp z0 X0 s.heap.size QR) (XCC G ad0 wp z0 X0 s.heap.size QX) args s mc ms (Afr ad0 z0 wp s.heap.size)) (F0 m pc la rest) q
/-- a method's start -/
def Pcc (G : Gp) (ad : Nat → Nat → Nat) (z : Zz) (X : Mm) (sz : Nat) (As : List Av) : Array Value → State → Prop := fun a U =>
  a = (As.map (cv G ad)).toArray ∧ Kt G U ∧ Kh G U U.heap ∧ Hp G ad z X U.heap ∧ Df z X ∧ oks z As ∧ U.heap.size = sz
/-- the contract of method y: called with As in the memory X it ends as QR and QX say, and writes nothing but what wp allows -/
def Ct (y d mc ms : Nat) (wp : Nat → Nat → Prop) (z : Zz) (X : Mm) (As : List Av) (QR : Option Av → Zz → Mm → Prop) (QX : Nat → Zz → Mm → Prop) : Prop :=
  (∀ i, ¬ wp 68 i) ∧ ∀ (l : Launch) (G : Gp) (ad : Nat → Nat → Nat) (sz : Nat), l.stackTraces = false →
    vx_Met l (nmy y) (wsy y) (rmm d mc ms) (Pcc G ad z X sz As) (Qcc G ad wp z X sz QR) (XCC G ad wp z X sz QX) mc ms (Afr ad z wp sz)
