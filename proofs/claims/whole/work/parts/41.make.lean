/-! ===== making cells: rows over Zk, the world as a growing list ===== -/
def NC (U : State) : Prop := va_Nw (.methodLinkNest RX4 57 yX2_init "ShunLots") U ∧ va_AO "ShunLots$Table" U ∧ va_AO "ShunLots$Law" U
theorem NC.moved {s U : State} (hW : s.WarmedH U.vm) (h : NC s) : NC U := ⟨h.1.warmM hW, h.2.1.moved hW.alike, h.2.2.moved hW.alike⟩
theorem NC.calling {U : State} {g : JFrame} {mk : MethodId} {a : Array Value} (h : NC U) : NC (U.calling g mk a) := ⟨va_Nw.same rfl rfl h.1, va_AO.moved (u := U) (U := U.calling g mk a) (Vm.Alike.refl U.vm) h.2.1, va_AO.moved (u := U) (U := U.calling g mk a) (Vm.Alike.refl U.vm) h.2.2⟩
def KC (D : va_G) (cy : Nat → Nat) (U : State) : Prop := va_K D vwCl (TY cy) U ∧ NC U
theorem KC.moved {D : va_G} {cy : Nat → Nat} {s U : State} (hW : s.WarmedH U.vm) (h : KC D cy s) : KC D cy U := ⟨va_K.moved hW.alike h.1, h.2.moved hW⟩
theorem KC.calling {D : va_G} {cy : Nat → Nat} {U : State} {g : JFrame} {mk : MethodId} {a : Array Value} (h : KC D cy U) : KC D cy (U.calling g mk a) := ⟨va_K.moved (u := U) (U := U.calling g mk a) (Vm.Alike.refl U.vm) h.1, h.2.calling⟩
def Hg (D : va_G) (A : Nat → Prop) (s : State) (ws : va_W) : Heap → List Loc → Prop := fun H locs => va_P D vwCl ws H ∧ va_D A ws ∧ va_S A s.heap H locs
theorem cy_one {D : va_G} {cl : List vw_C} {tys : List (ClassId × FieldType)} {U : State} {i : Nat} {c1 c2 : ClassId} {ty : FieldType} (hK : va_K D cl tys U) (hi : tys[i]? = some (c1, ty)) (h2 : va_RA U c2 ty) : c2 = c1 := by
  have h1 := (hK.2 i _ hi).2
  cases ty with
  | object C =>
    obtain ⟨-, -, -, -, -, h1⟩ := h1
    obtain ⟨-, -, -, -, -, h2⟩ := h2
    exact Option.some.inj (h2.symm.trans h1)
  | _ => exact Option.some.inj (Eq.trans (Eq.symm h2) h1)
/-- a callee that had the last cell gives back cells in its place -/
theorem last_join {A : Nat → Prop} {D : va_G} {cl : List vw_C} {ws w1 : va_W} {q : Nat} {e : va_E} {H H1 : Heap} (hP : va_P D cl (ws ++ [(q, e)]) H) (hD : va_D A (ws ++ [(q, e)])) (hk : ∀ x : Nat, x < H.size → ¬ va_A [(q, e)] H.size x → H1[x]? = H[x]?) (hF : ∀ x, va_A [(q, e)] H.size x → A x) (hP1 : va_P D cl w1 H1) (hD1 : va_D (va_A [(q, e)] H.size) w1) : va_P D cl (ws ++ w1) H1 ∧ va_D A (ws ++ w1) := by
  have old : ∀ (k : Nat) (x : Nat × va_E), ws[k]? = some x → (ws ++ [(q, e)])[k]? = some x := fun k x h => by
    rw [List.getElem?_append_left (List.getElem?_eq_some_iff.mp h).1]; exact h
  have lst : (ws ++ [(q, e)])[ws.length]? = some (q, e) := by simp
  have apart : ∀ (k : Nat) (x : Nat × va_E), ws[k]? = some x → x.1 < H.size ∧ ¬ va_A [(q, e)] H.size x.1 := fun k x h => by
    have hlt := (hP k x (old k x h)).lt
    refine ⟨hlt, fun z => ?_⟩
    rcases z with ⟨j, e', hj⟩ | hge
    · have hj0 : j < 1 := (List.getElem?_eq_some_iff.mp hj).1
      have : j = 0 := by omega
      subst this
      have hq : q = x.1 := congrArg Prod.fst (Option.some.inj hj)
      have := hD.1 k ws.length x (q, e) (old k x h) lst hq.symm
      have hl : k < ws.length := (List.getElem?_eq_some_iff.mp h).1
      omega
    · omega
  have hPw : va_P D cl ws H1 := fun k x h => (hP k x (old k x h)).kept (hk x.1 (apart k x h).1 (apart k x h).2)
  refine ⟨hPw.app hP1, va_D.app ⟨fun i j a b hi hj => hD.1 i j a b (old i a hi) (old j b hj), fun k x h => hD.2 k x (old k x h)⟩ (hD1.weaken (fun k x h hz => hF x.1 hz)) (fun i j a b hi hj hab => ?_)⟩
  have h1 := (apart i a hi).2
  rw [hab] at h1
  exact h1 (hD1.2 j b hj)
theorem cell_set {A : Nat → Prop} {D : va_G} {cl : List vw_C} {ws : va_W} {H : Heap} {p a : Nat} {cA : ClassId} {x x' : vp_A} (hP : va_P D cl ws H) (hD : va_D A ws) (hp : ws[p]? = some (a, .inl (cA, x))) (he : vp_cell cA x = vp_cell cA x') : va_P D cl (ws.set p (a, .inl (cA, x'))) H ∧ va_D A (ws.set p (a, .inl (cA, x'))) := by
  refine ⟨hP.set hD hp ?_ (fun _ _ => rfl), hD.set hp⟩
  have := hP p _ hp
  show H[a]? = some (vp_cell cA x')
  rw [← he]
  exact this
theorem cell_q {cA : ClassId} {f g : Nat → Option Nat} {N : Nat} (h : ∀ j, j < N → f j = g j) : vp_cell cA (N, .inr (.inr (.inr (.inr f)))) = vp_cell cA (N, .inr (.inr (.inr (.inr g)))) := by
  rw [vp_cell_q, vp_cell_q]
  unfold arrV
  congr 1
  apply congrArg
  funext j
  show va_rf (f j.val) = va_rf (g j.val)
  rw [h j.val j.isLt]
/-! contracts of constructors -/
def CI (l : Launch) (D : va_G) (cy : Nat → Nat) (y : MethodName) (ws : List Cond) (rm : Room) (mc ms : Nat) (av : List Value) (h0 : Nat) (e0 : va_E) (w1 : (Nat → Nat) → va_W) : Prop :=
  ∀ sz : Nat, Met l y ws rm (va_Pc av (fun U => U.heap.size = sz ∧ va_P D vwCl [(h0, e0)] U.heap ∧ KC D cy U)) (va_Qv (S := Nat → Nat) (fun _ => True) (fun u t => va_P D vwCl (w1 u) t.heap ∧ va_D (va_A [(h0, e0)] sz) (w1 u)) (va_A [(h0, e0)] sz)) mc ms (va_A [(h0, e0)] sz)
abbrev Qc (D : va_G) (below : List Frame) (args : Array Value) (s : State) (mc ms : Nat) (h0 : Nat) (e0 : va_E) (w1 : (Nat → Nat) → va_W) : State → Prop := MQ below (va_Qv (S := Nat → Nat) (fun _ => True) (fun u t => va_P D vwCl (w1 u) t.heap ∧ va_D (va_A [(h0, e0)] s.heap.size) (w1 u)) (va_A [(h0, e0)] s.heap.size)) args s mc ms (va_A [(h0, e0)] s.heap.size)
theorem one_D {A : Nat → Prop} {q : Nat × va_E} (h : A q.1) : va_D A [q] := by
  refine ⟨fun i j a b hi hj _ => ?_, fun k x hx => ?_⟩
  · have h1 : i < 1 := (List.getElem?_eq_some_iff.mp hi).1
    have h2 : j < 1 := (List.getElem?_eq_some_iff.mp hj).1
    omega
  · have h1 : k < 1 := (List.getElem?_eq_some_iff.mp hx).1
    have : k = 0 := by omega
    subst this
    cases hx
    exact h
theorem CI.of {l : Launch} {D : va_G} {cy : Nat → Nat} {y : MethodName} {ws ws' : List Cond} {rm : Room} {mc ms : Nat} {av : List Value} {h0 : Nat} {e0 : va_E} {w1 : (Nat → Nat) → va_W} {cc : ByteArray} {nL : Nat} {own : String} (ho : y.cls = own) (hy : plainName y.cls = true) (hi : y.name = "<init>") (hw : ws = Cond.code y cc nL none :: ws') (hn : (lg_sl av).length ≤ nL)
    (k : ∀ p e s m args below meth c, MX p m c cc nL s args ws own meth none → KC D cy s → meth.name = "<init>" → (∀ q, s.heap.size ≤ q → va_A [(h0, e0)] s.heap.size q) → Zk 0 0 p l e rm s m args below meth c nL (Qc D below args s mc ms h0 e0 w1) (Hg D (va_A [(h0, e0)] s.heap.size) s [(h0, e0)]) 0 (lv_args 0 av) []) : CI l D cy y ws rm mc ms av h0 e0 w1 := by
  intro sz
  refine Met.ofW (cc := cc) (maxL := nL) (ret := none) hy hw ?_
  intro p e s m args below meth c s₁ B hml hv
  obtain ⟨hv, hsz, hP, hK⟩ := hv
  subst hv
  subst ho
  subst hsz
  rw [lg_entry_eq]
  exact k p e s m _ below meth c ⟨⟨B.exec, B.bytes, hml, findClass_of_methodNamed B.named, atoms_spec (ws := ws) B.pre⟩, B.returns, B.notSynchronized⟩ hK ((name_of_methodNamed B.named B.method).1.trans hi) (fun q h => Or.inr h) _ _ _ ⟨hP, one_D (Or.inl ⟨0, e0, rfl⟩), va_S.rf⟩ (lv_entry av hn)
section ZM
variable {kC kS : Nat} {p : Program} {l : Launch} {e : Env} {R : Room} {s : State} {m : MethodId} {args : Array Value} {below : List Frame} {meth : Method} {c : Code} {nL : Nat} {Q : State → Prop} {cc : ByteArray} {Ts : List Cond} {own : String} {ret : Option FieldType} {pc : Nat} {lv : List (Nat × Value)} {st : List Value} {D : va_G} {cy : Nat → Nat} {A : Nat → Prop} {ws : va_W}
theorem y_world {ws' : va_W} {kC' kS' : Nat} (h : ws = ws') (h1 : kC = kC') (h2 : kS = kS') (k : Zk kC' kS' p l e R s m args below meth c nL Q (Hg D A s ws') pc lv st) : Zk kC kS p l e R s m args below meth c nL Q (Hg D A s ws) pc lv st := by
  subst h; subst h1; subst h2; exact k
theorem y_objInit {index a : Nat} (M : MX p m c cc nL s args Ts own meth ret) {HP : Heap → List Loc → Prop} (h1 : Cond.methodLink own index objectInit ∈ Ts) (h2 : Cond.instanceMethod objectInit ∈ Ts) (h3 : Cond.code objectInit ⟨#[0xb1]⟩ 1 none ∈ Ts) (hf : 1 ≤ R.frames) (hloc : (st.map fun v => v.category).sum + 12 ≤ R.locals) (hd : decode cc pc = .ok (.invokespecial index, 3)) (k : Zk kC kS p l e R s m args below meth c nL Q HP (pc + 3) lv st) : Zk kC kS p l e R s m args below meth c nL Q HP pc lv (.ref a :: st) :=
  fun H locs ls h hl => W.objInit M.1.1 M.1.2.1 M.1.2.2.2.1 (M.1.2.2.2.2 _ h1) (M.1.2.2.2.2 _ h2) (M.1.2.2.2.2 _ h3) rfl (hl.1.trans M.1.2.2.1.symm) rfl hd hf (by show 2 * 0 + _ + 12 ≤ _; omega) (k H locs ls h hl)
theorem y_getG {ci a : Nat} {fs : List Value} {C ref : String} {T : u_T} {N index : Nat} {v : Value} (M : MX p m c cc nL s args Ts own meth ret) (K : KC D cy s) (hin : ∀ w ∈ u_ws C T N, w ∈ Ts) (q0 : Nat) (he : ws[q0]? = some (a, .inr (ci, fs))) (hc : vwCl[ci]? = some (C, T, N)) (k : Nat) (hk : k < N) (hlink : Cond.fieldLink own index ref (T k).2.1 (T k).2.2.1 ∈ Ts) (href : ref = (T k).1) (hv : fs[k]? = some v) (hd : decode cc pc = .ok (.getfield index, 3)) (kk : Zk kC kS p l e R s m args below meth c nL Q (Hg D A s ws) (pc + 3) lv (v :: st)) : Zk kC kS p l e R s m args below meth c nL Q (Hg D A s ws) pc lv (.ref a :: st) :=
  fun H locs ls h hl => va_get M.1.1 M.1.2.1 M.1.2.2.2.2 hin M.1.2.2.2.1 K.1 h.1 q0 he hc k hk (M.1.2.2.2.2 _ hlink) (fun _ h9 => by rw [href]; exact h9) hv hd (kk H locs ls h hl)
theorem y_putF {ci a : Nat} {fs : List Value} {C ref : String} {T : u_T} {N index : Nat} {v : Value} {ty : FieldType} (M : MX p m c cc nL s args Ts own meth ret) (K : KC D cy s) (hm : meth.name = "<init>") (hin : ∀ w ∈ u_ws C T N, w ∈ Ts) (ty0 : Nat → FieldType) (hty : ∀ k, k < N → parseFieldDescriptor (T k).2.2.1 = some (ty0 k)) (hnm : ∀ a, a < N → ∀ b, b < N → a ≠ b → (T a).2.1 ≠ (T b).2.1) (q0 : Nat) (he : ws[q0]? = some (a, .inr (ci, fs))) (hc : vwCl[ci]? = some (C, T, N)) (k : Nat) (hk : k < N) (hlink : Cond.fieldLink own index ref (T k).2.1 (T k).2.2.1 ∈ Ts) (href : ref = (T k).1) (hfin : (T k).2.2.2 = true) (hdecl : (T k).1 = own) (hdsc : parseFieldDescriptor (T k).2.2.1 = some ty) (hn : narrow ty v = v) (hfit : fits ty v = true) (hlen : k < fs.length) (hd : decode cc pc = .ok (.putfield index, 3)) (kk : Zk kC kS p l e R s m args below meth c nL Q (Hg D A s (ws.set q0 (a, .inr (ci, fs.set k v)))) (pc + 3) lv st) : Zk kC kS p l e R s m args below meth c nL Q (Hg D A s ws) pc lv (v :: .ref a :: st) :=
  fun H locs ls h hl => va_putF (D := D) M.1.1 M.1.2.1 M.1.2.2.2.2 hin ty0 hty hnm M.1.2.2.2.1 K.1 h.1 h.2.1 h.2.2 q0 he hc k hk (M.1.2.2.2.2 _ hlink) (fun _ h9 => by rw [href]; exact h9) hfin hm hdecl hdsc hn hfit hlen hd (fun H1 locs1 hP1 hD1 hS1 => kk H1 locs1 ls ⟨hP1, hD1, hS1⟩ hl)
theorem y_newa {atype : ArrayType} {ty : FieldType} {cA0 : ClassId} {n : Int32} {N' : Nat} {a0 : vp_A} (M : MX p m c cc nL s args Ts own meth ret) (K : KC D cy s) (hA : ∀ q, s.heap.size ≤ q → A q) (hw : Cond.arrayClass (newarray.typeOf atype) ∈ Ts) (hty : newarray.typeOf atype = ty) (i : Nat) (hi : (TY cy)[i]? = some (cA0, ty)) (ha : ∀ cA : ClassId, vp_cell cA a0 = arrV cA N' (fun _ => defaultValue ty)) (hn : ¬ n < 0) (hN : n.toNatClampNeg = N') (hbytes : N' * componentBytes ty ≤ 536870912) (hcells : kC + 1 ≤ R.cells) (hslots : kS + N' ≤ R.slots) (hd : decode cc pc = .ok (.newarray atype, 2)) (k : ∀ q, Zk (kC + 1) (kS + N') p l e R s m args below meth c nL Q (Hg D A s (ws ++ [(q, .inl (cA0, a0))])) (pc + 2) lv (.ref q :: st)) : Zk kC kS p l e R s m args below meth c nL Q (Hg D A s ws) pc lv (.int n :: st) :=
  fun H locs ls h hl => va_newa M.1.1 M.1.2.1 (M.1.2.2.2.2 _ hw) hty K.1 h.1 h.2.1 h.2.2 hA ha hn hN hbytes hcells hslots hd (fun q cA H1 hK' hP' hD' hS' => by
    have e : cA = cA0 := cy_one K.1 hi ((hK'.2 (TY cy).length (cA, ty) (by simp)).2)
    subst e
    exact k q H1 locs ls ⟨hP', hD', hS'⟩ hl)
theorem y_newq {C : String} {index : Nat} {cA0 : ClassId} {n : Int32} {N' : Nat} (M : MX p m c cc nL s args Ts own meth ret) (K : KC D cy s) (hA : ∀ q, s.heap.size ≤ q → A q) (hcl : Cond.classLink own index C ∈ Ts) (ho : va_AO C s) (i : Nat) (hi : (TY cy)[i]? = some (cA0, .object C)) (hn : ¬ n < 0) (hN : n.toNatClampNeg = N') (hbytes : N' * 4 ≤ 536870912) (hcells : kC + 1 ≤ R.cells) (hslots : kS + N' ≤ R.slots) (hd : decode cc pc = .ok (.anewarray index, 3)) (k : ∀ q, Zk (kC + 1) (kS + N') p l e R s m args below meth c nL Q (Hg D A s (ws ++ [(q, .inl (cA0, N', .inr (.inr (.inr (.inr (fun _ => none))))))])) (pc + 3) lv (.ref q :: st)) : Zk kC kS p l e R s m args below meth c nL Q (Hg D A s ws) pc lv (.int n :: st) :=
  fun H locs ls h hl => va_newq M.1.1 M.1.2.1 M.1.2.2.2.1 (M.1.2.2.2.2 _ hcl) ho K.1 h.1 h.2.1 h.2.2 hA hn hN hbytes hcells hslots hd (fun q cA H1 hK' hP' hD' hS' => by
    have e : cA = cA0 := cy_one K.1 hi ((hK'.2 (TY cy).length (cA, .object C) (by simp)).2)
    subst e
    exact k q H1 locs ls ⟨hP', hD', hS'⟩ hl)
theorem y_new {C : String} {T : u_T} {N ci index : Nat} {fs : List Value} (M : MX p m c cc nL s args Ts own meth ret) (K : va_K D vwCl (TY cy) s) (hA : ∀ q, s.heap.size ≤ q → A q) (hin : ∀ w ∈ u_ws C T N, w ∈ Ts) (ty : Nat → FieldType) (hty : ∀ k, k < N → parseFieldDescriptor (T k).2.2.1 = some (ty k)) (hcl : Cond.classLink own index C ∈ Ts) (h2 : Cond.instantiable C N ∈ Ts) (h3 : Cond.initialized C ∈ Ts) (hc : vwCl[ci]? = some (C, T, N)) (hfs : ∀ j, j < N → defaultValue (ty j) = vp_V fs j) (hcells : kC + 1 ≤ R.cells) (hslots : kS + N ≤ R.slots) (hd : decode cc pc = .ok (.new index, 3)) (k : ∀ q, Zk (kC + 1) (kS + N) p l e R s m args below meth c nL Q (Hg D A s (ws ++ [(q, .inr (ci, fs))])) (pc + 3) lv (.ref q :: st)) : Zk kC kS p l e R s m args below meth c nL Q (Hg D A s ws) pc lv st :=
  fun H locs ls h hl => va_new M.1.1 M.1.2.1 M.1.2.2.2.2 hin ty hty M.1.2.2.2.1 (M.1.2.2.2.2 _ hcl) (M.1.2.2.2.2 _ h2) (M.1.2.2.2.2 _ h3) K h.1 h.2.1 h.2.2 hA hc hfs hcells hslots hd (fun q H1 hP' hD' hS' => k q H1 locs ls ⟨hP', hD', hS'⟩ hl)
theorem y_astq {a : Nat} {cA : ClassId} {r : vw_C} {n v : Nat} {vs : List Value} {f : Nat → Option Nat} {i : Int32} (M : MX p m c cc nL s args Ts own meth ret) (K : KC D cy s) (q0 t0 qk ci : Nat) (ha : ws[q0]? = some (a, .inl (cA, n, .inr (.inr (.inr (.inr f)))))) (ht : (TY cy)[t0]? = some (cA, .object r.1)) (hv : ws[qk]? = some (v, .inr (ci, vs))) (hc : vwCl[ci]? = some r) (hin : vp_in i n) (hd : decode cc pc = .ok (.aastore, 1)) (k : Zk kC kS p l e R s m args below meth c nL Q (Hg D A s (ws.set q0 (a, .inl (cA, n, .inr (.inr (.inr (.inr (va_up f i.toNatClampNeg (some v))))))))) (pc + 1) lv st) : Zk kC kS p l e R s m args below meth c nL Q (Hg D A s ws) pc lv (.ref v :: .int i :: .ref a :: st) :=
  fun H locs ls h hl => va_astq M.1.1 M.1.2.1 K.1 h.1 h.2.1 h.2.2 q0 t0 qk ci ha ht hv hc hin hd (fun H1 locs1 hP1 hD1 hS1 => k H1 locs1 ls ⟨hP1, hD1, hS1⟩ hl)
theorem y_callI {y : MethodName} {wy : List Cond} {rm : Room} {mc ms b index maxL nn : Nat} {e0 : va_E} {w1 : (Nat → Nat) → va_W} {bytes : ByteArray} {As stk : List Value} (M : MX p m c cc nL s args Ts own meth ret) (K : KC D cy s) (hA : ∀ q, s.heap.size ≤ q → A q) (hc : CI l D cy y wy rm mc ms (.ref b :: As) b e0 w1) (cw : CallB R s args own index y bytes maxL none wy rm mc ms nn ∧ y.name = "<init>" ∧ (Cond.instanceMethod y).before args s = true) (hn : As.length = nn) (hst : stk = As.reverse ++ .ref b :: st) (hW : (st.map fun v => v.category).sum ≤ 8) (hd : decode cc pc = .ok (.invokespecial index, 3)) (hf : kC + mc ≤ R.cells ∧ kS + ms ≤ R.slots) (k : ∀ u, Zk (kC + mc) (kS + ms) p l e R s m args below meth c nL Q (Hg D A s (ws ++ w1 u)) (pc + 3) lv st) : Zk kC kS p l e R s m args below meth c nL Q (Hg D A s (ws ++ [(b, e0)])) pc lv stk := by
  intro H locs ls h hl
  obtain ⟨hP, hD, hS⟩ := h
  have lst : (ws ++ [(b, e0)])[ws.length]? = some (b, e0) := by simp
  have hF : ∀ x, va_A [(b, e0)] H.size x → A x := fun x hx => by
    rcases hx with ⟨j, e', hj⟩ | hge
    · have hj0 : j < 1 := (List.getElem?_eq_some_iff.mp hj).1
      have : j = 0 := by omega
      subst this
      have hq : b = x := congrArg Prod.fst (Option.some.inj hj)
      rw [← hq]
      exact hD.2 _ _ lst
    · exact hA x (Nat.le_trans hS.1 hge)
  have hPc : va_P D vwCl [(b, e0)] H := fun k x hx => by
    have hk : k < 1 := (List.getElem?_eq_some_iff.mp hx).1
    have : k = 0 := by omega
    subst this
    cases hx
    exact hP _ _ lst
  have hrun := va_runI (p := p) (e := e) (R := R) (s := s) (m := m) (args := args) (below := below) (meth := meth) (c := c) (H := H) (locs := locs) (cells := kC) (slots := kS) (rest := st) (g := F0 m pc ls stk) (As := As) (b := b) M.1 (hc H.size) cw ⟨fun a U g mk q => ⟨q.1, q.2.1, q.2.2.1, q.2.2.2.calling⟩, fun U hU hW => ⟨rfl, by rw [hU], by rw [hU]; exact hPc, K.moved hW⟩⟩ rfl hn hl.1 hst (lv_room hW) hd hf
  refine va_callv hrun hS (fun q _ h => hF q h) hF (fun u t H1 locs1 ht hvm _ hB hz hk1 hS1 => ?_)
  obtain ⟨hP1, hD1⟩ := hB
  rw [ht] at hP1
  obtain ⟨j1, j2⟩ := last_join hP hD hk1 hF hP1 hD1
  exact k u H1 locs1 ls ⟨j1, j2, hS1⟩ hl
theorem y_callIN {y : MethodName} {wy : List Cond} {rm : Room} {mc ms b index maxL nn : Nat} {host : String} {e0 : va_E} {w1 : (Nat → Nat) → va_W} {bytes : ByteArray} {As stk : List Value} (M : MX p m c cc nL s args Ts own meth ret) (K : KC D cy s) (hA : ∀ q, s.heap.size ≤ q → A q) (hc : CI l D cy y wy rm mc ms (.ref b :: As) b e0 w1) (cw : va_CN R s args own index y host bytes maxL none wy rm mc ms nn ∧ y.name = "<init>" ∧ (Cond.instanceMethod y).before args s = true) (hn : As.length = nn) (hst : stk = As.reverse ++ .ref b :: st) (hW : (st.map fun v => v.category).sum ≤ 8) (hd : decode cc pc = .ok (.invokespecial index, 3)) (hf : kC + mc ≤ R.cells ∧ kS + ms ≤ R.slots) (k : ∀ u, Zk (kC + mc) (kS + ms) p l e R s m args below meth c nL Q (Hg D A s (ws ++ w1 u)) (pc + 3) lv st) : Zk kC kS p l e R s m args below meth c nL Q (Hg D A s (ws ++ [(b, e0)])) pc lv stk := by
  intro H locs ls h hl
  obtain ⟨hP, hD, hS⟩ := h
  have lst : (ws ++ [(b, e0)])[ws.length]? = some (b, e0) := by simp
  have hF : ∀ x, va_A [(b, e0)] H.size x → A x := fun x hx => by
    rcases hx with ⟨j, e', hj⟩ | hge
    · have hj0 : j < 1 := (List.getElem?_eq_some_iff.mp hj).1
      have : j = 0 := by omega
      subst this
      have hq : b = x := congrArg Prod.fst (Option.some.inj hj)
      rw [← hq]
      exact hD.2 _ _ lst
    · exact hA x (Nat.le_trans hS.1 hge)
  have hPc : va_P D vwCl [(b, e0)] H := fun k x hx => by
    have hk : k < 1 := (List.getElem?_eq_some_iff.mp hx).1
    have : k = 0 := by omega
    subst this
    cases hx
    exact hP _ _ lst
  have hrun := va_runIN (p := p) (e := e) (R := R) (s := s) (m := m) (args := args) (below := below) (meth := meth) (c := c) (H := H) (locs := locs) (cells := kC) (slots := kS) (rest := st) (g := F0 m pc ls stk) (As := As) (b := b) M.1 (hc H.size) cw ⟨fun a U g mk q => ⟨q.1, q.2.1, q.2.2.1, q.2.2.2.calling⟩, fun U hU hW => ⟨rfl, by rw [hU], by rw [hU]; exact hPc, K.moved hW⟩⟩ rfl hn hl.1 hst (lv_room hW) hd hf
  refine va_callv hrun hS (fun q _ h => hF q h) hF (fun u t H1 locs1 ht hvm _ hB hz hk1 hS1 => ?_)
  obtain ⟨hP1, hD1⟩ := hB
  rw [ht] at hP1
  obtain ⟨j1, j2⟩ := last_join hP hD hk1 hF hP1 hD1
  exact k u H1 locs1 ls ⟨j1, j2, hS1⟩ hl
theorem y_retI {mc ms h0 : Nat} {e0 : va_E} {w1 : (Nat → Nat) → va_W} (M : MX p m c cc nL s args Ts own meth none) (hc : kC ≤ mc) (hs : kS ≤ ms) (u : Nat → Nat) (hw : ∀ H, va_P D vwCl ws H → va_D (va_A [(h0, e0)] s.heap.size) ws → va_P D vwCl (w1 u) H ∧ va_D (va_A [(h0, e0)] s.heap.size) (w1 u)) (hd : decode cc pc = .ok (.return_, 1)) : Zk kC kS p l e R s m args below meth c nL (Qc D below args s mc ms h0 e0 w1) (Hg D (va_A [(h0, e0)] s.heap.size) s ws) pc lv [] := by
  intro H locs ls h hl
  refine W.widen (k := mc) (n := ms) hc hs ?_
  obtain ⟨j1, j2⟩ := hw H h.1 h.2.1
  exact W.vret M.1.1 M.1.2.1 M.2.1 (fun t ht hW => ⟨⟨u, rfl, trivial, by rw [ht]; exact j1, j2⟩, h.2.2.F ht⟩) h.2.2.2.2 hd M.2.2
end ZM
