/-! ===== rows over Zz that touch the world ===== -/
def ro (n ty r len : Nat) : Prop := r < 48 ∧ wT r = ty ∧ wL n r = len
def roO (cy ad : Nat → Nat) (n : Nat) (S : St) (r ci : Nat) (fs : List Value) : Prop := r < 48 ∧ wC cy ad n S r = .inr (ci, fs)
theorem wC_congr {cy ad : Nat → Nat} {n : Nat} {S S' : St} {q : Nat} (h1 : S'.1 q = S.1 q) (h2 : S'.2 q = S.2 q) : wC cy ad n S' q = wC cy ad n S q := by
  simp only [wC, h1, h2]
theorem wC_0 {cy ad : Nat → Nat} {n : Nat} {S : St} {r : Nat} (h : wT r = 0) : wC cy ad n S r = .inl (cy 0, wL n r, .inl (S.1 r)) := by
  simp only [wC, h]
theorem wC_1 {cy ad : Nat → Nat} {n : Nat} {S : St} {r : Nat} (h : wT r = 1) : wC cy ad n S r = .inl (cy 1, wL n r, .inr (.inl (S.2 r))) := by
  simp only [wC, h]
theorem wC_2 {cy ad : Nat → Nat} {n : Nat} {S : St} {r : Nat} (h : wT r = 2) : wC cy ad n S r = .inl (cy 2, wL n r, .inl (S.1 r)) := by
  simp only [wC, h]
theorem wC_5 {cy ad : Nat → Nat} {n : Nat} {S : St} {r : Nat} (h : wT r = 5) : wC cy ad n S r = .inr (3, [.int (nI n), .ref (ad (r + 6))]) := by
  simp only [wC, h]
theorem wC_6 {cy ad : Nat → Nat} {n : Nat} {S : St} {r : Nat} (h : wT r = 6) : wC cy ad n S r = .inr (0, [.ref (ad (r + 6)), .long (S.2 r 0), .int (S.1 r 0)]) := by
  simp only [wC, h]
theorem ro_num {n t : Nat} (h : t < 6) : ro n 0 (19 + t) (n * n) := by
  rcases (show t = 0 ∨ t = 1 ∨ t = 2 ∨ t = 3 ∨ t = 4 ∨ t = 5 by omega) with rfl | rfl | rfl | rfl | rfl | rfl <;> exact ⟨by decide, rfl, rfl⟩
theorem ro_shr {n t : Nat} (h : t < 6) : ro n 1 (31 + t) (2 ^ n) := by
  rcases (show t = 0 ∨ t = 1 ∨ t = 2 ∨ t = 3 ∨ t = 4 ∨ t = 5 by omega) with rfl | rfl | rfl | rfl | rfl | rfl <;> exact ⟨by decide, rfl, rfl⟩
theorem wT_tab {t : Nat} (h : t < 6) : wT (13 + t) = 5 := by
  rcases (show t = 0 ∨ t = 1 ∨ t = 2 ∨ t = 3 ∨ t = 4 ∨ t = 5 by omega) with rfl | rfl | rfl | rfl | rfl | rfl <;> rfl
theorem wT_law {t : Nat} (h : t < 6) : wT (25 + t) = 6 := by
  rcases (show t = 0 ∨ t = 1 ∨ t = 2 ∨ t = 3 ∨ t = 4 ∨ t = 5 by omega) with rfl | rfl | rfl | rfl | rfl | rfl <;> rfl
theorem o_tab {cy ad : Nat → Nat} {n : Nat} {S : St} {t : Nat} (h : t < 6) : roO cy ad n S (13 + t) 3 [.int (nI n), .ref (ad (19 + t))] :=
  ⟨by omega, by rw [wC_5 (wT_tab h), show 13 + t + 6 = 19 + t by omega]⟩
theorem o_law {cy ad : Nat → Nat} {n : Nat} {S : St} {t : Nat} (h : t < 6) : roO cy ad n S (25 + t) 0 [.ref (ad (31 + t)), .long (S.2 (25 + t) 0), .int (S.1 (25 + t) 0)] :=
  ⟨by omega, by rw [wC_6 (wT_law h), show 25 + t + 6 = 31 + t by omega]⟩
theorem o_obj {cy ad : Nat → Nat} {n : Nat} {S : St} : roO cy ad n S 0 4 [.int (nI n), .int (nI (2 ^ n)), .ref (ad 1), .ref (ad 2), .ref (ad 3), .ref (ad 4), .ref (ad 5), .ref (ad 6)] := ⟨by decide, rfl⟩
theorem o_net {cy ad : Nat → Nat} {n : Nat} {S : St} : roO cy ad n S 2 1 [.int (nI n), .ref (ad 7), .ref (ad 8), .ref (ad 9)] := ⟨by decide, rfl⟩
theorem o_squ {cy ad : Nat → Nat} {n : Nat} {S : St} : roO cy ad n S 6 2 [.ref (ad 10), .ref (ad 11), .int (S.1 6 0)] := ⟨by decide, rfl⟩
theorem o_mod {cy ad : Nat → Nat} {n : Nat} {S : St} : roO cy ad n S 12 5 [.int (nI n), .int (nI (2 ^ n)), .ref (ad 37), .ref (ad 38), .ref (ad 39), .ref (ad 40), .ref (ad 41), .ref (ad 42), .ref (ad 43), .ref (ad 44), .ref (ad 45), .ref (ad 46), .ref (ad 47)] := ⟨by decide, rfl⟩
theorem WW_sI {cy ad : Nat → Nat} {n : Nat} {S : St} {r k : Nat} {v : Int32} (hr : r < 48) (hT : wT r = 0) : (WW cy ad n S).set r (ad r, .inl (cy 0, wL n r, .inl (upd (S.1 r) k v))) = WW cy ad n (sI S r k v) :=
  WW_set hr (by rw [wC_0 hT]; simp only [sI, va_up_self]) (fun q hq => wC_congr (by simp only [sI, va_up_ne _ _ hq]) rfl)
theorem WW_sZ {cy ad : Nat → Nat} {n : Nat} {S : St} {r k : Nat} {v : Int32} (hr : r < 48) (hT : wT r = 2) : (WW cy ad n S).set r (ad r, .inl (cy 2, wL n r, .inl (upd (S.1 r) k v))) = WW cy ad n (sI S r k v) :=
  WW_set hr (by rw [wC_2 hT]; simp only [sI, va_up_self]) (fun q hq => wC_congr (by simp only [sI, va_up_ne _ _ hq]) rfl)
theorem WW_sC {cy ad : Nat → Nat} {n : Nat} {S : St} {r : Nat} {f : Nat → Int64} (hr : r < 48) (hT : wT r = 1) : (WW cy ad n S).set r (ad r, .inl (cy 1, wL n r, .inr (.inl f))) = WW cy ad n (sC S r f) :=
  WW_set hr (by rw [wC_1 hT]; simp only [sC, va_up_self]) (fun q hq => wC_congr rfl (by simp only [sC, va_up_ne _ _ hq]))
theorem WW_sJ {cy ad : Nat → Nat} {n : Nat} {S : St} {r k : Nat} {v : Int64} (hr : r < 48) (hT : wT r = 1) : (WW cy ad n S).set r (ad r, .inl (cy 1, wL n r, .inr (.inl (vp_updL (S.2 r) k v)))) = WW cy ad n (sJ S r k v) :=
  WW_set hr (by rw [wC_1 hT]; simp only [sJ, va_up_self]) (fun q hq => wC_congr rfl (by simp only [sJ, va_up_ne _ _ hq]))
section ZH
variable {p : Program} {l : Launch} {e : Env} {R : Room} {s : State} {m : MethodId} {args : Array Value} {below : List Frame} {meth : Method} {c : Code} {nL : Nat} {Q : State → Prop} {HP : Heap → List Loc → Prop} {cc : ByteArray} {Ts : List Cond} {own : String} {ret : Option FieldType} {pc : Nat} {lv : List (Nat × Value)} {st : List Value} {D : va_G} {cy ad : Nat → Nat} {n : Nat} {S : St}
theorem z_get {r ci : Nat} {fs : List Value} {C ref : String} {T : u_T} {N index : Nat} {v : Value} (M : MX p m c cc nL s args Ts own meth ret) (K : KK D cy ad s) (hin : ∀ w ∈ u_ws C T N, w ∈ Ts) (ho : roO cy ad n S r ci fs) (hc : vwCl[ci]? = some (C, T, N)) (k : Nat) (hk : k < N) (hlink : Cond.fieldLink own index ref (T k).2.1 (T k).2.2.1 ∈ Ts) (href : ref = (T k).1) (hv : fs[k]? = some v) (hd : decode cc pc = .ok (.getfield index, 3)) (kk : Zz p l e R s m args below meth c nL Q (Hw D cy ad n s S) (pc + 3) lv (v :: st)) : Zz p l e R s m args below meth c nL Q (Hw D cy ad n s S) pc lv (.ref (ad r) :: st) :=
  fun H locs ls h hl => va_get M.1.1 M.1.2.1 M.1.2.2.2.2 hin M.1.2.2.2.1 K.1 h.1 r (by rw [WW_at ho.1, ho.2]) hc k hk (M.1.2.2.2.2 _ hlink) (fun _ h9 => by rw [href]; exact h9) hv hd (kk H locs ls h hl)
theorem z_putW {r ci : Nat} {fs fs' : List Value} {C ref : String} {T : u_T} {N index : Nat} {v : Value} {S' : St} (M : MX p m c cc nL s args Ts own meth ret) (K : KK D cy ad s) (hin : ∀ w ∈ u_ws C T N, w ∈ Ts) (ty0 : Nat → FieldType) (hty : ∀ k, k < N → parseFieldDescriptor (T k).2.2.1 = some (ty0 k)) (hnm : ∀ a, a < N → ∀ b, b < N → a ≠ b → (T a).2.1 ≠ (T b).2.1) (ho : roO cy ad n S r ci fs) (hc : vwCl[ci]? = some (C, T, N)) (k : Nat) (hk : k < N) (hlink : Cond.fieldLink own index ref (T k).2.1 (T k).2.2.1 ∈ Ts) (href : ref = (T k).1) (hfin : (T k).2.2.2 = false) (ty : FieldType) (hdsc : parseFieldDescriptor (T k).2.2.1 = some ty) (hn : narrow ty v = v) (hfit : fits ty v = true) (hlen : k < fs.length) (ho' : roO cy ad n S' r ci fs') (hset : fs.set k v = fs') (hne : ∀ q, q ≠ r → S'.1 q = S.1 q ∧ S'.2 q = S.2 q) (hd : decode cc pc = .ok (.putfield index, 3)) (kk : Zz p l e R s m args below meth c nL Q (Hw D cy ad n s S') (pc + 3) lv st) : Zz p l e R s m args below meth c nL Q (Hw D cy ad n s S) pc lv (v :: .ref (ad r) :: st) :=
  fun H locs ls h hl => va_put (D := D) M.1.1 M.1.2.1 M.1.2.2.2.2 hin ty0 hty hnm M.1.2.2.2.1 K.1 h.1 (WW_D K.2.2) h.2 r (by rw [WW_at ho.1, ho.2]) hc k hk (M.1.2.2.2.2 _ hlink) (fun _ h9 => by rw [href]; exact h9) hfin hdsc hn hfit hlen hd (fun H1 locs1 hP1 _ hS1 => kk H1 locs1 ls ⟨by
    rw [hset, WW_set (S' := S') ho.1 ho'.2 (fun q hq => wC_congr (hne q hq).1 (hne q hq).2)] at hP1
    exact hP1, hS1⟩ hl)
theorem z_iald {β : Type} {X : Option β} {res : β} {r len : Nat} {i : Int32} (M : MX p m c cc nL s args Ts own meth ret) (K : KK D cy ad s) (hr : ro n 0 r len) (h : gd (inb i len) X = some res) (hd : decode cc pc = .ok (.iaload, 1)) (k : i.toNatClampNeg < len → X = some res → Zz p l e R s m args below meth c nL Q (Hw D cy ad n s S) (pc + 1) lv (.int (S.1 r i.toNatClampNeg) :: st)) : Zz p l e R s m args below meth c nL Q (Hw D cy ad n s S) pc lv (.int i :: .ref (ad r) :: st) :=
  fun H locs ls hh hl => va_iald M.1.1 M.1.2.1 K.1 hh.1 r 0 (by rw [WW_at hr.1, wC_0 hr.2.1]) rfl (by rw [hr.2.2]; exact (inb_in (gd_in h).1).1) hd (k (inb_in (gd_in h).1).2 (gd_in h).2 H locs ls hh hl)
theorem z_zald {β : Type} {X : Option β} {res : β} {r len : Nat} {i : Int32} (M : MX p m c cc nL s args Ts own meth ret) (K : KK D cy ad s) (hr : ro n 2 r len) (h : gd (inb i len) X = some res) (hd : decode cc pc = .ok (.baload, 1)) (k : i.toNatClampNeg < len → X = some res → Zz p l e R s m args below meth c nL Q (Hw D cy ad n s S) (pc + 1) lv (.int (S.1 r i.toNatClampNeg) :: st)) : Zz p l e R s m args below meth c nL Q (Hw D cy ad n s S) pc lv (.int i :: .ref (ad r) :: st) :=
  fun H locs ls hh hl => va_zald M.1.1 M.1.2.1 K.1 hh.1 r 2 (by rw [WW_at hr.1, wC_2 hr.2.1]) rfl (by rw [hr.2.2]; exact (inb_in (gd_in h).1).1) hd (k (inb_in (gd_in h).1).2 (gd_in h).2 H locs ls hh hl)
theorem z_lald {β : Type} {X : Option β} {res : β} {r len : Nat} {i : Int32} (M : MX p m c cc nL s args Ts own meth ret) (K : KK D cy ad s) (hr : ro n 1 r len) (h : gd (inb i len) X = some res) (hd : decode cc pc = .ok (.laload, 1)) (k : i.toNatClampNeg < len → X = some res → Zz p l e R s m args below meth c nL Q (Hw D cy ad n s S) (pc + 1) lv (.long (S.2 r i.toNatClampNeg) :: st)) : Zz p l e R s m args below meth c nL Q (Hw D cy ad n s S) pc lv (.int i :: .ref (ad r) :: st) :=
  fun H locs ls hh hl => va_lald M.1.1 M.1.2.1 K.1 hh.1 r 1 (by rw [WW_at hr.1, wC_1 hr.2.1]) rfl (by rw [hr.2.2]; exact (inb_in (gd_in h).1).1) hd (k (inb_in (gd_in h).1).2 (gd_in h).2 H locs ls hh hl)
theorem z_iast {β : Type} {X : Option β} {res : β} {r len : Nat} {i v : Int32} (M : MX p m c cc nL s args Ts own meth ret) (K : KK D cy ad s) (hr : ro n 0 r len) (h : gd (inb i len) X = some res) (hd : decode cc pc = .ok (.iastore, 1)) (k : X = some res → Zz p l e R s m args below meth c nL Q (Hw D cy ad n s (sI S r i.toNatClampNeg v)) (pc + 1) lv st) : Zz p l e R s m args below meth c nL Q (Hw D cy ad n s S) pc lv (.int v :: .int i :: .ref (ad r) :: st) :=
  fun H locs ls hh hl => va_iast M.1.1 M.1.2.1 K.1 hh.1 (WW_D K.2.2) hh.2 r 0 (by rw [WW_at hr.1, wC_0 hr.2.1]) rfl (by rw [hr.2.2]; exact (inb_in (gd_in h).1).1) hd (fun H1 locs1 hP1 _ hS1 => k (gd_in h).2 H1 locs1 ls ⟨by rw [WW_sI hr.1 hr.2.1] at hP1; exact hP1, hS1⟩ hl)
theorem z_zast1 {β : Type} {X : Option β} {res : β} {r len : Nat} {i : Int32} (M : MX p m c cc nL s args Ts own meth ret) (K : KK D cy ad s) (hr : ro n 2 r len) (h : gd (inb i len) X = some res) (hd : decode cc pc = .ok (.bastore, 1)) (k : X = some res → Zz p l e R s m args below meth c nL Q (Hw D cy ad n s (sI S r i.toNatClampNeg 1)) (pc + 1) lv st) : Zz p l e R s m args below meth c nL Q (Hw D cy ad n s S) pc lv (.int 1 :: .int i :: .ref (ad r) :: st) :=
  fun H locs ls hh hl => va_zast M.1.1 M.1.2.1 K.1 hh.1 (WW_D K.2.2) hh.2 r 2 (by rw [WW_at hr.1, wC_2 hr.2.1]) rfl (by rw [hr.2.2]; exact (inb_in (gd_in h).1).1) hd (fun H1 locs1 hP1 _ hS1 => k (gd_in h).2 H1 locs1 ls ⟨by
    rw [show vp_nar .boolean 1 = 1 from by decide, WW_sZ hr.1 hr.2.1] at hP1; exact hP1, hS1⟩ hl)
theorem z_last {β : Type} {X : Option β} {res : β} {r len : Nat} {i : Int32} {v : Int64} (M : MX p m c cc nL s args Ts own meth ret) (K : KK D cy ad s) (hr : ro n 1 r len) (h : gd (inb i len) X = some res) (hd : decode cc pc = .ok (.lastore, 1)) (k : X = some res → Zz p l e R s m args below meth c nL Q (Hw D cy ad n s (sJ S r i.toNatClampNeg v)) (pc + 1) lv st) : Zz p l e R s m args below meth c nL Q (Hw D cy ad n s S) pc lv (.long v :: .int i :: .ref (ad r) :: st) :=
  fun H locs ls hh hl => va_last M.1.1 M.1.2.1 K.1 hh.1 (WW_D K.2.2) hh.2 r 1 (by rw [WW_at hr.1, wC_1 hr.2.1]) rfl (by rw [hr.2.2]; exact (inb_in (gd_in h).1).1) hd (fun H1 locs1 hP1 _ hS1 => k (gd_in h).2 H1 locs1 ls ⟨by rw [WW_sJ hr.1 hr.2.1] at hP1; exact hP1, hS1⟩ hl)
theorem z_alenJ {r len : Nat} (M : MX p m c cc nL s args Ts own meth ret) (K : KK D cy ad s) (hr : ro n 1 r len) (hd : decode cc pc = .ok (.arraylength, 1)) (k : Zz p l e R s m args below meth c nL Q (Hw D cy ad n s S) (pc + 1) lv (.int (nI len) :: st)) : Zz p l e R s m args below meth c nL Q (Hw D cy ad n s S) pc lv (.ref (ad r) :: st) :=
  fun H locs ls hh hl => va_alen (ty := .long) (x := (wL n r, .inr (.inl (S.2 r)))) M.1.1 M.1.2.1 K.1 hh.1 r 1 (by rw [WW_at hr.1, wC_1 hr.2.1]) rfl (by rw [hr.2.2]; rfl) hd (k H locs ls hh hl)
theorem z_aaldT {β : Type} {X : Option β} {res : β} {i : Int32} (M : MX p m c cc nL s args Ts own meth ret) (K : KK D cy ad s) (h : gd (inb i 6) X = some res) (hd : decode cc pc = .ok (.aaload, 1)) (k : i.toNatClampNeg < 6 → X = some res → Zz p l e R s m args below meth c nL Q (Hw D cy ad n s S) (pc + 1) lv (.ref (ad (13 + i.toNatClampNeg)) :: st)) : Zz p l e R s m args below meth c nL Q (Hw D cy ad n s S) pc lv (.int i :: .ref (ad 1) :: st) :=
  fun H locs ls hh hl => va_aldq (f := fun t => some (ad (13 + t))) (n := 6) M.1.1 M.1.2.1 K.1 hh.1 1 4 (by rw [WW_at (by decide)]; rfl) rfl (inb_in (gd_in h).1).1 hd (k (inb_in (gd_in h).1).2 (gd_in h).2 H locs ls hh hl)
theorem z_aaldL {β : Type} {X : Option β} {res : β} {i : Int32} (M : MX p m c cc nL s args Ts own meth ret) (K : KK D cy ad s) (h : gd (inb i 6) X = some res) (hd : decode cc pc = .ok (.aaload, 1)) (k : i.toNatClampNeg < 6 → X = some res → Zz p l e R s m args below meth c nL Q (Hw D cy ad n s S) (pc + 1) lv (.ref (ad (25 + i.toNatClampNeg)) :: st)) : Zz p l e R s m args below meth c nL Q (Hw D cy ad n s S) pc lv (.int i :: .ref (ad 3) :: st) :=
  fun H locs ls hh hl => va_aldq (f := fun t => some (ad (25 + t))) (n := 6) M.1.1 M.1.2.1 K.1 hh.1 3 3 (by rw [WW_at (by decide)]; rfl) rfl (inb_in (gd_in h).1).1 hd (k (inb_in (gd_in h).1).2 (gd_in h).2 H locs ls hh hl)
def cpok (sp dp k : Int32) (n0 n1 : Nat) : Bool := !(decide (sp < 0)) && !(decide (dp < 0)) && !(decide (k < 0)) && decide (sp.toNatClampNeg + k.toNatClampNeg ≤ n0) && decide (dp.toNatClampNeg + k.toNatClampNeg ≤ n1)
theorem z_copyl {β : Type} {X : Option β} {res : β} {r0 r1 n0 n1 index : Nat} {sp dp k0 : Int32} (M : MX p m c cc nL s args Ts own meth ret) (K : KK D cy ad s) (h1 : Cond.methodLink own index arraycopyName ∈ Ts) (h2 : Cond.native arraycopyName ∈ Ts) (h3 : Cond.static arraycopyName ∈ Ts) (h4 : Cond.initialized "java/lang/System" ∈ Ts) (hr0 : ro n 1 r0 n0) (hr1 : ro n 1 r1 n1) (h : gd (cpok sp dp k0 n0 n1) X = some res) (hf : 1 ≤ R.frames) (hloc : (st.map fun v => v.category).sum + (nativeFrameWords "java/lang/System" "arraycopy" 5 + 11) ≤ R.locals) (hd : decode cc pc = .ok (.invokestatic index, 3)) (k : X = some res → Zz p l e R s m args below meth c nL Q (Hw D cy ad n s (sC S r1 (va_cpy (S.2 r0) (S.2 r1) sp.toNatClampNeg dp.toNatClampNeg k0.toNatClampNeg))) (pc + 3) lv st) : Zz p l e R s m args below meth c nL Q (Hw D cy ad n s S) pc lv (.int k0 :: .int dp :: .ref (ad r1) :: .int sp :: .ref (ad r0) :: st) := by
  intro H locs ls hh hl
  have hg := (gd_in h).1
  simp only [cpok, Bool.and_eq_true, Bool.not_eq_true', decide_eq_false_iff_not, decide_eq_true_eq] at hg
  obtain ⟨⟨⟨⟨g1, g2⟩, g3⟩, g4⟩, g5⟩ := hg
  refine va_copyl (ty := .long) M.1.1 M.1.2.1 (M.1.2.2.1.trans hl.1.symm) M.1.2.2.2.1 (M.1.2.2.2.2 _ h1) (M.1.2.2.2.2 _ h2) (M.1.2.2.2.2 _ h3) (M.1.2.2.2.2 _ h4) K.1 hh.1 (WW_D K.2.2) hh.2 r0 r1 1 1 (by rw [WW_at hr0.1, wC_1 hr0.2.1]) (by rw [WW_at hr1.1, wC_1 hr1.2.1]) rfl rfl rfl g1 g2 g3 (by rw [hr0.2.2]; exact g4) (by rw [hr1.2.2]; exact g5) (fun _ _ => rfl) hf hloc hd (fun H1 locs1 hP1 _ hS1 => k (gd_in h).2 H1 locs1 ls ⟨by rw [WW_sC hr1.1 hr1.2.1] at hP1; exact hP1, hS1⟩ hl)
/-! ===== calls ===== -/
theorem z_run {rv : Option Value} {S' : St} {free : Addr → Prop} {H : Heap} {locs : List Loc} {ls : Array Slot} {stk : List Value} (hr : va_Run p l e R s m args below meth c H locs 0 0 0 0 (F0 m pc ls stk) st (fun st oc t => oc = .returned rv ∧ va_P D vwCl (WW cy ad n S') t.heap ∧ va_F (Aw ad) st t) (Aw ad)) (hh : Hw D cy ad n s S H locs) (hl : lv_has ls nL lv) (k : Zz p l e R s m args below meth c nL Q (Hw D cy ad n s S') (pc + 3) lv (rv.toList ++ st)) : W p l e R s m args below meth c H locs 0 0 Q (F0 m pc ls stk) := by
  intro T hT X
  obtain ⟨v, st₀, t, T', L, h0, X', hL, e1, e2, ⟨hv, hP', hz, hk⟩, stp⟩ := hr T hT X
  cases hv
  rw [h0] at hz hk
  have hS := hh.2
  obtain ⟨t2, a1, b1⟩ := k T'.heap (locs ++ L) ls ⟨by rw [e1]; exact hP', Nat.le_trans hS.1 (by rw [e1]; exact hz), fun q h1 h2 => by rw [e1, hk q (Nat.lt_of_lt_of_le h1 hS.1) h2]; exact hS.2.1 q h1 h2, fun q hq => by
      rcases List.mem_append.mp hq with h | h
      · exact hS.2.2 q h
      · exact hL q h⟩ hl T' rfl X'
  exact ⟨t2, stp t2 a1, b1⟩
theorem z_vcallO {rv : Option Value} {S' : St} {y : MethodName} {ws : List Cond} {rm : Room} {r ci N index maxL nn : Nat} {fs : List Value} {C : String} {T : u_T} {bytes : ByteArray} {ret' : Option FieldType} {As stk : List Value} (M : MX p m c cc nL s args Ts own meth ret) (K : KK D cy ad s) (hc : CW l D cy ad n y ws rm (.ref (ad r) :: As) S rv S') (cw : CallW R s args own C index y bytes maxL ret' ws rm 0 0 nn) (ho : roO cy ad n S r ci fs) (hcl : vwCl[ci]? = some (C, T, N)) (hn : As.length = nn) (hst : stk = As.reverse ++ .ref (ad r) :: st) (hW : (st.map fun v => v.category).sum ≤ 8) (hd : decode cc pc = .ok (.invokevirtual index, 3)) (k : Zz p l e R s m args below meth c nL Q (Hw D cy ad n s S') (pc + 3) lv (rv.toList ++ st)) : Zz p l e R s m args below meth c nL Q (Hw D cy ad n s S) pc lv stk := by
  intro H locs ls hh hl
  have hrun := va_runV (p := p) (e := e) (R := R) (s := s) (m := m) (args := args) (below := below) (meth := meth) (c := c) (H := H) (locs := locs) (cells := 0) (slots := 0) (rest := st) (g := F0 m pc ls stk) (As := As) (b := ad r) M.1 hc cw ⟨fun a U g mk q => ⟨q.1, q.2.1, q.2.2.calling⟩, va_recv K.1 hh.1 hcl (by rw [WW_at ho.1, ho.2]), fun U hU hW => ⟨rfl, by rw [hU]; exact hh.1, K.moved hW⟩⟩ rfl hn hl.1 hst (lv_room hW) hd ⟨Nat.zero_le _, Nat.zero_le _⟩
  exact z_run (free := Aw ad) hrun hh hl k
theorem z_vcall {v : Value} {S' : St} {y : MethodName} {ws : List Cond} {rm : Room} {r ci N index maxL nn : Nat} {fs : List Value} {C : String} {T : u_T} {bytes : ByteArray} {ret' : Option FieldType} {As stk : List Value} (M : MX p m c cc nL s args Ts own meth ret) (K : KK D cy ad s) (hc : CW l D cy ad n y ws rm (.ref (ad r) :: As) S (some v) S') (cw : CallW R s args own C index y bytes maxL ret' ws rm 0 0 nn) (ho : roO cy ad n S r ci fs) (hcl : vwCl[ci]? = some (C, T, N)) (hn : As.length = nn) (hst : stk = As.reverse ++ .ref (ad r) :: st) (hW : (st.map fun v => v.category).sum ≤ 8) (hd : decode cc pc = .ok (.invokevirtual index, 3)) (k : Zz p l e R s m args below meth c nL Q (Hw D cy ad n s S') (pc + 3) lv (v :: st)) : Zz p l e R s m args below meth c nL Q (Hw D cy ad n s S) pc lv stk :=
  z_vcallO M K hc cw ho hcl hn hst hW hd k
theorem z_vcallV {S' : St} {y : MethodName} {ws : List Cond} {rm : Room} {r ci N index maxL nn : Nat} {fs : List Value} {C : String} {T : u_T} {bytes : ByteArray} {ret' : Option FieldType} {As stk : List Value} (M : MX p m c cc nL s args Ts own meth ret) (K : KK D cy ad s) (hc : CW l D cy ad n y ws rm (.ref (ad r) :: As) S none S') (cw : CallW R s args own C index y bytes maxL ret' ws rm 0 0 nn) (ho : roO cy ad n S r ci fs) (hcl : vwCl[ci]? = some (C, T, N)) (hn : As.length = nn) (hst : stk = As.reverse ++ .ref (ad r) :: st) (hW : (st.map fun v => v.category).sum ≤ 8) (hd : decode cc pc = .ok (.invokevirtual index, 3)) (k : Zz p l e R s m args below meth c nL Q (Hw D cy ad n s S') (pc + 3) lv st) : Zz p l e R s m args below meth c nL Q (Hw D cy ad n s S) pc lv stk :=
  z_vcallO M K hc cw ho hcl hn hst hW hd k
theorem z_runP {v : Value} {H : Heap} {locs : List Loc} {ls : Array Slot} {stk : List Value} (hr : va_Run p l e R s m args below meth c H locs 0 0 0 0 (F0 m pc ls stk) st (fun st oc t => oc = .returned (some v) ∧ t.heap = st.heap) (fun _ => False)) (hh : HP H locs) (hl : lv_has ls nL lv) (k : Zz p l e R s m args below meth c nL Q HP (pc + 3) lv (v :: st)) : W p l e R s m args below meth c H locs 0 0 Q (F0 m pc ls stk) := by
  intro T hT X
  obtain ⟨v', st₀, t, T', L, h0, X', hL, e1, e2, ⟨hv, hh2⟩, stp⟩ := hr T hT X
  cases hv
  obtain ⟨t2, a1, b1⟩ := k H locs ls hh hl T' (by rw [e1, hh2, h0]) (Stand.forget X' (fun q h => (hL q h).elim))
  exact ⟨t2, stp t2 a1, b1⟩
theorem z_scall {v : Value} {y : MethodName} {ws : List Cond} {rm : Room} {index maxL nn : Nat} {bytes : ByteArray} {ret' : Option FieldType} {As stk : List Value} (M : MX p m c cc nL s args Ts own meth ret) (hc : CP l y ws rm As (some v)) (cw : CallB R s args own index y bytes maxL ret' ws rm 0 0 nn ∧ (Cond.static y).before args s = true) (hn : As.length = nn) (hst : stk = As.reverse ++ st) (hW : (st.map fun v => v.category).sum ≤ 8) (hd : decode cc pc = .ok (.invokestatic index, 3)) (k : Zz p l e R s m args below meth c nL Q HP (pc + 3) lv (v :: st)) : Zz p l e R s m args below meth c nL Q HP pc lv stk := by
  intro H locs ls hh hl
  have hrun := va_runS (p := p) (e := e) (R := R) (s := s) (m := m) (args := args) (below := below) (meth := meth) (c := c) (H := H) (locs := locs) (cells := 0) (slots := 0) (rest := st) (g := F0 m pc ls stk) (As := As) M.1 hc cw ⟨fun a U g mk q => q, fun U hU hW => rfl⟩ rfl hn hl.1 hst (lv_room hW) hd ⟨Nat.zero_le _, Nat.zero_le _⟩
  exact z_runP hrun hh hl k
theorem z_ncall {v : Value} {y : MethodName} {ws : List Cond} {rm : Room} {index maxL nn : Nat} {bytes : ByteArray} {host : String} {ret' : Option FieldType} {As stk : List Value} (M : MX p m c cc nL s args Ts own meth ret) (hc : CP l y ws rm As (some v)) (cw : va_CN R s args own index y host bytes maxL ret' ws rm 0 0 nn ∧ (Cond.static y).before args s = true ∧ True) (hn : As.length = nn) (hst : stk = As.reverse ++ st) (hW : (st.map fun v => v.category).sum ≤ 8) (hd : decode cc pc = .ok (.invokestatic index, 3)) (k : Zz p l e R s m args below meth c nL Q HP (pc + 3) lv (v :: st)) : Zz p l e R s m args below meth c nL Q HP pc lv stk := by
  intro H locs ls hh hl
  have hrun := va_runSN (p := p) (e := e) (R := R) (s := s) (m := m) (args := args) (below := below) (meth := meth) (c := c) (H := H) (locs := locs) (cells := 0) (slots := 0) (rest := st) (g := F0 m pc ls stk) (As := As) M.1 hc cw ⟨fun a U g mk q => q, fun U hU hW => rfl⟩ rfl hn hl.1 hst (lv_room hW) hd ⟨Nat.zero_le _, Nat.zero_le _⟩
  exact z_runP hrun hh hl k
/-! ===== returns ===== -/
theorem z_iretP {x r : Int32} (M : MX p m c cc nL s args Ts own meth (some .int)) (h : some x = some r) (hd : decode cc pc = .ok (.ireturn, 1)) : Zz p l e R s m args below meth c nL (Qp below args s (some (.int r))) (Hp s) pc lv [.int x] := fun H locs ls hh hl => by
  cases h
  exact W.iret M.1.1 M.1.2.1 M.2.1 (fun t ht hW => ⟨rfl, ht.trans hh.1⟩) (fun q hq => by rw [hh.2] at hq; cases hq) hd M.2.2
theorem z_zretP {x : Int32} {b r : Bool} (M : MX p m c cc nL s args Ts own meth (some .boolean)) (h : some b = some r) (hx : x = b2i b) (hd : decode cc pc = .ok (.ireturn, 1)) : Zz p l e R s m args below meth c nL (Qp below args s (some (.int (b2i r)))) (Hp s) pc lv [.int x] := fun H locs ls hh hl => by
  cases h
  subst hx
  exact W.zret M.1.1 M.1.2.1 M.2.1 (by cases b <;> decide) (fun t ht hW => ⟨rfl, ht.trans hh.1⟩) (fun q hq => by rw [hh.2] at hq; cases hq) hd M.2.2
theorem z_lretP {x r : Int64} (M : MX p m c cc nL s args Ts own meth (some .long)) (h : some x = some r) (hd : decode cc pc = .ok (.lreturn, 1)) : Zz p l e R s m args below meth c nL (Qp below args s (some (.long r))) (Hp s) pc lv [.long x] := fun H locs ls hh hl => by
  cases h
  exact W.lret M.1.1 M.1.2.1 M.2.1 (fun t ht hW => ⟨rfl, ht.trans hh.1⟩) (fun q hq => by rw [hh.2] at hq; cases hq) hd M.2.2
theorem z_iretW {x r : Int32} {S' : St} (M : MX p m c cc nL s args Ts own meth (some .int)) (h : x = r) (h2 : S = S') (hd : decode cc pc = .ok (.ireturn, 1)) : Zz p l e R s m args below meth c nL (Qw D cy ad n below args s (some (.int r)) S') (Hw D cy ad n s S) pc lv [.int x] := fun H locs ls hh hl => by
  subst h
  subst h2
  exact W.iret M.1.1 M.1.2.1 M.2.1 (fun t ht hW => ⟨rfl, by rw [ht]; exact hh.1, hh.2.F ht⟩) hh.2.2.2 hd M.2.2
theorem z_zretW {x : Int32} {b r : Bool} {S' : St} (M : MX p m c cc nL s args Ts own meth (some .boolean)) (h : b = r) (h2 : S = S') (hx : x = b2i b) (hd : decode cc pc = .ok (.ireturn, 1)) : Zz p l e R s m args below meth c nL (Qw D cy ad n below args s (some (.int (b2i r))) S') (Hw D cy ad n s S) pc lv [.int x] := fun H locs ls hh hl => by
  subst h
  subst h2
  subst hx
  exact W.zret M.1.1 M.1.2.1 M.2.1 (by cases b <;> decide) (fun t ht hW => ⟨rfl, by rw [ht]; exact hh.1, hh.2.F ht⟩) hh.2.2.2 hd M.2.2
theorem z_lretW {x r : Int64} {S' : St} (M : MX p m c cc nL s args Ts own meth (some .long)) (h : x = r) (h2 : S = S') (hd : decode cc pc = .ok (.lreturn, 1)) : Zz p l e R s m args below meth c nL (Qw D cy ad n below args s (some (.long r)) S') (Hw D cy ad n s S) pc lv [.long x] := fun H locs ls hh hl => by
  subst h
  subst h2
  exact W.lret M.1.1 M.1.2.1 M.2.1 (fun t ht hW => ⟨rfl, by rw [ht]; exact hh.1, hh.2.F ht⟩) hh.2.2.2 hd M.2.2
theorem z_vretW {S' : St} (M : MX p m c cc nL s args Ts own meth none) (h2 : S = S') (hd : decode cc pc = .ok (.return_, 1)) : Zz p l e R s m args below meth c nL (Qw D cy ad n below args s none S') (Hw D cy ad n s S) pc lv [] := fun H locs ls hh hl => by
  subst h2
  exact W.vret M.1.1 M.1.2.1 M.2.1 (fun t ht hW => ⟨rfl, by rw [ht]; exact hh.1, hh.2.F ht⟩) hh.2.2.2 hd M.2.2
/-- a law's reference, or none -/
def vL (ad : Nat → Nat) (o : Option Nat) : Value := match o with
  | none => .null
  | some t => .ref (ad (25 + t))
theorem z_aretW {v : Value} {o r : Option Nat} {S' : St} (M : MX p m c cc nL s args Ts own meth (some (.object "ShunLots$Law"))) (h : o = r) (h2 : S = S') (hx : v = vL ad o) (hd : decode cc pc = .ok (.areturn, 1)) : Zz p l e R s m args below meth c nL (Qw D cy ad n below args s (some (vL ad r)) S') (Hw D cy ad n s S) pc lv [v] := fun H locs ls hh hl => by
  subst h
  subst h2
  subst hx
  exact W.aret M.1.1 M.1.2.1 M.2.1 (Or.inl ⟨_, rfl⟩) (by cases o; exact Or.inl rfl; exact Or.inr ⟨_, rfl⟩) (fun t ht hW => ⟨rfl, by rw [ht]; exact hh.1, hh.2.F ht⟩) hh.2.2.2 hd M.2.2
end ZH
