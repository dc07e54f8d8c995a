/-! ===== the state: int rows, long rows, by role; the world as a list of 48 cells ===== -/
abbrev St : Type := (Nat → Nat → Int32) × (Nat → Nat → Int64)
def sI (S : St) (r k : Nat) (v : Int32) : St := (va_up S.1 r (upd (S.1 r) k v), S.2)
def sJ (S : St) (r k : Nat) (v : Int64) : St := (S.1, va_up S.2 r (vp_updL (S.2 r) k v))
def sC (S : St) (r : Nat) (f : Nat → Int64) : St := (S.1, va_up S.2 r f)
def gd {β : Type} (b : Bool) (X : Option β) : Option β := bif b then X else none
def inb (i : Int32) (n : Nat) : Bool := !(decide (i < 0)) && decide (i.toNatClampNeg < n)
def bo {α β : Type} (o : Option α) (f : α → Option β) : Option β := match o with
  | none => none
  | some a => f a
def bw {α β : Type} (o : Option (α × St)) (f : α → St → Option β) : Option β := match o with
  | none => none
  | some a => f a.1 a.2
def b2i (b : Bool) : Int32 := bif b then 1 else 0
theorem gd_in {β : Type} {b : Bool} {X : Option β} {res : β} (h : gd b X = some res) : b = true ∧ X = some res := by
  cases b with
  | false => cases h
  | true => exact ⟨rfl, h⟩
theorem inb_in {i : Int32} {n : Nat} (h : inb i n = true) : vp_in i n ∧ i.toNatClampNeg < n := by
  simp only [inb, Bool.and_eq_true, Bool.not_eq_true', decide_eq_false_iff_not, decide_eq_true_eq] at h
  exact ⟨fun q => q.elim h.1 (fun q => absurd h.2 (Nat.not_lt.mpr q)), h.2⟩
theorem bo_in {α β : Type} {o : Option α} {f : α → Option β} {res : β} (h : bo o f = some res) : ∃ a, o = some a ∧ f a = some res := by
  cases o with
  | none => cases h
  | some a => exact ⟨a, rfl, h⟩
theorem bw_in {α β : Type} {o : Option (α × St)} {f : α → St → Option β} {res : β} (h : bw o f = some res) : ∃ (a : α) (S : St), o = some (a, S) ∧ f a S = some res := by
  cases o with
  | none => cases h
  | some a => exact ⟨a.1, a.2, rfl, h⟩
def wT (r : Nat) : Nat := [7, 4, 8, 3, 1, 1, 9, 0, 0, 0, 1, 1, 10, 5, 5, 5, 5, 5, 5, 0, 0, 0, 0, 0, 0, 6, 6, 6, 6, 6, 6, 1, 1, 1, 1, 1, 1, 0, 0, 1, 1, 1, 1, 2, 0, 0, 0, 0].getD r 11
def wL (n r : Nat) : Nat := [0, 6, 0, 6, 2 ^ n, 2 ^ n, 0, n, n, n, 36, 64, 0, 0, 0, 0, 0, 0, 0, n * n, n * n, n * n, n * n, n * n, n * n, 0, 0, 0, 0, 0, 0, 2 ^ n, 2 ^ n, 2 ^ n, 2 ^ n, 2 ^ n, 2 ^ n, 216, 6, 64, 384, 64, 64, 6, 6, 6, 6, 5].getD r 0
def wC (cy ad : Nat → Nat) (n : Nat) (S : St) (r : Nat) : va_E := match wT r with
  | 0 => .inl (cy 0, wL n r, .inl (S.1 r))
  | 1 => .inl (cy 1, wL n r, .inr (.inl (S.2 r)))
  | 2 => .inl (cy 2, wL n r, .inl (S.1 r))
  | 3 => .inl (cy 3, 6, .inr (.inr (.inr (.inr (fun t => some (ad (25 + t)))))))
  | 4 => .inl (cy 4, 6, .inr (.inr (.inr (.inr (fun t => some (ad (13 + t)))))))
  | 5 => .inr (3, [.int (nI n), .ref (ad (r + 6))])
  | 6 => .inr (0, [.ref (ad (r + 6)), .long (S.2 r 0), .int (S.1 r 0)])
  | 7 => .inr (4, [.int (nI n), .int (nI (2 ^ n)), .ref (ad 1), .ref (ad 2), .ref (ad 3), .ref (ad 4), .ref (ad 5), .ref (ad 6)])
  | 8 => .inr (1, [.int (nI n), .ref (ad 7), .ref (ad 8), .ref (ad 9)])
  | 9 => .inr (2, [.ref (ad 10), .ref (ad 11), .int (S.1 r 0)])
  | _ => .inr (5, [.int (nI n), .int (nI (2 ^ n)), .ref (ad 37), .ref (ad 38), .ref (ad 39), .ref (ad 40), .ref (ad 41), .ref (ad 42), .ref (ad 43), .ref (ad 44), .ref (ad 45), .ref (ad 46), .ref (ad 47)])
def WW (cy ad : Nat → Nat) (n : Nat) (S : St) : va_W := (List.range 48).map (fun r => (ad r, wC cy ad n S r))
theorem WW_at {cy ad : Nat → Nat} {n : Nat} {S : St} {r : Nat} (hr : r < 48) : (WW cy ad n S)[r]? = some (ad r, wC cy ad n S r) := by
  simp [WW, hr]
theorem WW_get {cy ad : Nat → Nat} {n : Nat} {S : St} {k : Nat} {q : Nat × va_E} (h : (WW cy ad n S)[k]? = some q) : k < 48 ∧ q = (ad k, wC cy ad n S k) := by
  have hl : k < 48 := by
    have := (List.getElem?_eq_some_iff.mp h).1
    simpa [WW] using this
  rw [WW_at hl] at h
  exact ⟨hl, (Option.some.inj h).symm⟩
theorem WW_set {cy ad : Nat → Nat} {n : Nat} {S S' : St} {r : Nat} {e : va_E} (hr : r < 48) (h1 : wC cy ad n S' r = e) (h2 : ∀ q, q ≠ r → wC cy ad n S' q = wC cy ad n S q) : (WW cy ad n S).set r (ad r, e) = WW cy ad n S' := by
  apply List.ext_getElem?
  intro j
  by_cases hj : j = r
  · subst hj
    rw [List.getElem?_set_self (by simpa [WW] using hr), WW_at hr, h1]
  · rw [List.getElem?_set_ne (Ne.symm hj)]
    by_cases h48 : j < 48
    · rw [WW_at h48, WW_at h48, h2 j hj]
    · rw [List.getElem?_eq_none (by simp [WW]; omega), List.getElem?_eq_none (by simp [WW]; omega)]
def Aw (ad : Nat → Nat) : Nat → Prop := fun q => ∃ r, r < 48 ∧ q = ad r
theorem WW_D {cy ad : Nat → Nat} {n : Nat} {S : St} (hi : ∀ i j, i < 48 → j < 48 → ad i = ad j → i = j) : va_D (Aw ad) (WW cy ad n S) := by
  refine ⟨fun i j p q h1 h2 h3 => ?_, fun k q h => ?_⟩
  · obtain ⟨a1, rfl⟩ := WW_get h1
    obtain ⟨a2, rfl⟩ := WW_get h2
    exact hi i j a1 a2 h3
  · obtain ⟨a1, rfl⟩ := WW_get h
    exact ⟨k, a1, rfl⟩
abbrev TY (cy : Nat → Nat) : List (ClassId × FieldType) := [(cy 0, .int), (cy 1, .long), (cy 2, .boolean), (cy 3, .object "ShunLots$Law"), (cy 4, .object "ShunLots$Table")]
def NN (U : State) : Prop := va_Nw (.methodLinkNest RX3 29 yX4_has "ShunLots") U ∧ va_Nw (.methodLinkNest RX2 31 yX4_isAmong "ShunLots") U ∧ va_Nw (.methodLinkNest RX1 47 yX4_has "ShunLots") U ∧ va_Nw (.methodLinkNest RX0 21 yX4_fits "ShunLots") U
def KK (D : va_G) (cy ad : Nat → Nat) (U : State) : Prop := va_K D vwCl (TY cy) U ∧ NN U ∧ ∀ i j, i < 48 → j < 48 → ad i = ad j → i = j
theorem NN.moved {s U : State} (hW : s.WarmedH U.vm) (h : NN s) : NN U := ⟨h.1.warmM hW, h.2.1.warmM hW, h.2.2.1.warmM hW, h.2.2.2.warmM hW⟩
theorem KK.moved {D : va_G} {cy ad : Nat → Nat} {s U : State} (hW : s.WarmedH U.vm) (h : KK D cy ad s) : KK D cy ad U := ⟨va_K.moved hW.alike h.1, h.2.1.moved hW, h.2.2⟩
theorem KK.calling {D : va_G} {cy ad : Nat → Nat} {U : State} {g : JFrame} {mk : MethodId} {a : Array Value} (h : KK D cy ad U) : KK D cy ad (U.calling g mk a) := ⟨va_K.moved (u := U) (U := U.calling g mk a) (Vm.Alike.refl U.vm) h.1, ⟨va_Nw.same rfl rfl h.2.1.1, va_Nw.same rfl rfl h.2.1.2.1, va_Nw.same rfl rfl h.2.1.2.2.1, va_Nw.same rfl rfl h.2.1.2.2.2⟩, h.2.2⟩
/-! ===== contracts ===== -/
def CP (l : Launch) (y : MethodName) (ws : List Cond) (rm : Room) (av : List Value) (rv : Option Value) : Prop := Met l y ws rm (fun v _ => v = av.toArray) (fun _ st oc t => oc = .returned rv ∧ t.heap = st.heap) 0 0 (fun _ => False)
def CW (l : Launch) (D : va_G) (cy ad : Nat → Nat) (n : Nat) (y : MethodName) (ws : List Cond) (rm : Room) (av : List Value) (S : St) (rv : Option Value) (S' : St) : Prop := Met l y ws rm (fun v U => v = av.toArray ∧ va_P D vwCl (WW cy ad n S) U.heap ∧ KK D cy ad U) (fun _ st oc t => oc = .returned rv ∧ va_P D vwCl (WW cy ad n S') t.heap ∧ va_F (Aw ad) st t) 0 0 (Aw ad)
def Hp (s : State) : Heap → List Loc → Prop := fun H locs => H = s.heap ∧ locs = []
def Hw (D : va_G) (cy ad : Nat → Nat) (n : Nat) (s : State) (S : St) : Heap → List Loc → Prop := fun H locs => va_P D vwCl (WW cy ad n S) H ∧ va_S (Aw ad) s.heap H locs
abbrev Qp (below : List Frame) (args : Array Value) (s : State) (rv : Option Value) : State → Prop := MQ below (fun _ st oc t => oc = .returned rv ∧ t.heap = st.heap) args s 0 0 (fun _ => False)
abbrev Qw (D : va_G) (cy ad : Nat → Nat) (n : Nat) (below : List Frame) (args : Array Value) (s : State) (rv : Option Value) (S' : St) : State → Prop := MQ below (fun _ st oc t => oc = .returned rv ∧ va_P D vwCl (WW cy ad n S') t.heap ∧ va_F (Aw ad) st t) args s 0 0 (Aw ad)
def Zz (p : Program) (l : Launch) (e : Env) (R : Room) (s : State) (m : MethodId) (args : Array Value) (below : List Frame) (meth : Method) (c : Code) (nL : Nat) (Q : State → Prop) (HP : Heap → List Loc → Prop) (pc : Nat) (lv : List (Nat × Value)) (st : List Value) : Prop :=
  ∀ (H : Heap) (locs : List Loc) (ls : Array Slot), HP H locs → lv_has ls nL lv → W p l e R s m args below meth c H locs 0 0 Q (F0 m pc ls st)
/-- what a body has from its entry -/
def MX (p : Program) (m : MethodId) (c : Code) (cc : ByteArray) (nL : Nat) (s : State) (args : Array Value) (Ts : List Cond) (own : String) (meth : Method) (ret : Option FieldType) : Prop := CallFix p m c cc nL s args Ts own ∧ meth.sig.returnType = ret ∧ meth.locks = false
theorem CP.of {l : Launch} {y : MethodName} {ws ws' : List Cond} {rm : Room} {av : List Value} {rv : Option Value} {cc : ByteArray} {nL : Nat} {ret : Option FieldType} {own : String} (ho : y.cls = own) (hy : plainName y.cls = true) (hw : ws = Cond.code y cc nL ret :: ws') (hn : (lg_sl av).length ≤ nL)
    (k : ∀ p e s m args below meth c, MX p m c cc nL s args ws own meth ret → Zz p l e rm s m args below meth c nL (Qp below args s rv) (Hp s) 0 (lv_args 0 av) []) : CP l y ws rm av rv := by
  refine Met.ofW (cc := cc) (maxL := nL) (ret := ret) hy hw ?_
  intro p e s m args below meth c s₁ B hml hv
  subst hv
  subst ho
  rw [lg_entry_eq]
  exact k p e s m _ below meth c ⟨⟨B.exec, B.bytes, hml, findClass_of_methodNamed B.named, atoms_spec (ws := ws) B.pre⟩, B.returns, B.notSynchronized⟩ _ _ _ ⟨rfl, rfl⟩ (lv_entry av hn)
theorem CW.of {l : Launch} {D : va_G} {cy ad : Nat → Nat} {n : Nat} {y : MethodName} {ws ws' : List Cond} {rm : Room} {av : List Value} {rv : Option Value} {S S' : St} {cc : ByteArray} {nL : Nat} {ret : Option FieldType} {own : String} (ho : y.cls = own) (hy : plainName y.cls = true) (hw : ws = Cond.code y cc nL ret :: ws') (hn : (lg_sl av).length ≤ nL)
    (k : ∀ p e s m args below meth c, MX p m c cc nL s args ws own meth ret → KK D cy ad s → Zz p l e rm s m args below meth c nL (Qw D cy ad n below args s rv S') (Hw D cy ad n s S) 0 (lv_args 0 av) []) : CW l D cy ad n y ws rm av S rv S' := by
  refine Met.ofW (cc := cc) (maxL := nL) (ret := ret) hy hw ?_
  intro p e s m args below meth c s₁ B hml hv
  obtain ⟨hv, hP, hK⟩ := hv
  subst hv
  subst ho
  rw [lg_entry_eq]
  exact k p e s m _ below meth c ⟨⟨B.exec, B.bytes, hml, findClass_of_methodNamed B.named, atoms_spec (ws := ws) B.pre⟩, B.returns, B.notSynchronized⟩ hK _ _ _ ⟨hP, va_S.rf⟩ (lv_entry av hn)
