/-! ===== the law: rows ===== -/
def AH (s : State) : Nat → Prop := fun q => s.heap.size ≤ q
def Hl (D : va_G) (cy ad : Nat → Nat) (n : Nat) (s : State) (S : St) : Heap → List Loc → Prop := fun H locs => locs = [] ∧ va_P D vwCl (WW cy ad n S) H ∧ va_S (AH s) s.heap H []
def XX (s : State) (b L : Nat) (xs : Nat → Int32) : Prop := va_X b L xs s s.heap ∧ b < s.heap.size ∧ L ≤ 3073
theorem XX.no {s : State} {b L : Nat} {xs : Nat → Int32} (h : XX s b L xs) : ¬ AH s b := fun q => Nat.not_le.mpr h.2.1 q
section LR
variable {kC kS : Nat} {p : Program} {l : Launch} {e : Env} {R : Room} {s : State} {m : MethodId} {args : Array Value} {below : List Frame} {meth : Method} {c : Code} {nL : Nat} {Q : State → Prop} {cc : ByteArray} {Ts : List Cond} {own : String} {ret' : Option FieldType} {pc : Nat} {lv : List (Nat × Value)} {st : List Value} {D : va_G} {cy ad : Nat → Nat} {n : Nat} {S : St} {b L : Nat} {xs : Nat → Int32}
theorem yl_vcall {v : Value} {S' : St} {y : MethodName} {ws : List Cond} {rm : Room} {r ci N index maxL nn : Nat} {fs : List Value} {C : String} {T : u_T} {bytes : ByteArray} {rt : Option FieldType} {As stk : List Value} (M : MX p m c cc nL s args Ts own meth ret') (K : KK D cy ad s) (hAd : ∀ r, r < 48 → s.heap.size ≤ ad r) (hc : CW l D cy ad n y ws rm (.ref (ad r) :: As) S (some v) S') (cw : CallW R s args own C index y bytes maxL rt ws rm 0 0 nn) (ho : roO cy ad n S r ci fs) (hcl : vwCl[ci]? = some (C, T, N)) (hn : As.length = nn) (hst : stk = As.reverse ++ .ref (ad r) :: st) (hW : (st.map fun v => v.category).sum ≤ 8) (hkc : kC ≤ R.cells) (hks : kS ≤ R.slots) (hd : decode cc pc = .ok (.invokevirtual index, 3)) (k : Zk kC kS p l e R s m args below meth c nL Q (Hl D cy ad n s S') (pc + 3) lv (v :: st)) : Zk kC kS p l e R s m args below meth c nL Q (Hl D cy ad n s S) pc lv stk := by
  intro H locs ls hh hl
  obtain ⟨rfl, hP, hS⟩ := hh
  have hrun := va_runV (p := p) (e := e) (R := R) (s := s) (m := m) (args := args) (below := below) (meth := meth) (c := c) (H := H) (locs := []) (cells := kC) (slots := kS) (rest := st) (g := F0 m pc ls stk) (As := As) (b := ad r) M.1 hc cw ⟨fun a U g mk q => ⟨q.1, q.2.1, q.2.2.calling⟩, va_recv K.1 hP hcl (by rw [WW_at ho.1, ho.2]), fun U hU hW => ⟨rfl, by rw [hU]; exact hP, K.moved hW⟩⟩ rfl hn hl.1 hst (lv_room hW) hd ⟨hkc, hks⟩
  intro T hT X
  obtain ⟨v', st₀, t, T', L', h0, X', hL, e1, e2, ⟨hv, hP', hz, hk⟩, stp⟩ := hrun T hT X
  cases hv
  rw [h0] at hz hk
  have far : ∀ q, Aw ad q → AH s q := fun q ⟨r, hr, e⟩ => by rw [e]; exact hAd r hr
  obtain ⟨t2, a1, b1⟩ := k T'.heap [] ls ⟨rfl, by rw [e1]; exact hP', Nat.le_trans hS.1 (by rw [e1]; exact hz), fun q h1 h2 => by rw [e1, hk q (Nat.lt_of_lt_of_le h1 hS.1) (fun z => h2 (far q z))]; exact hS.2.1 q h1 h2, fun _ h => by cases h⟩ hl T' rfl (Stand.forget X' (fun q h => far _ (hL q h)))
  exact ⟨t2, stp t2 a1, b1⟩
theorem yl_len (M : MX p m c cc nL s args Ts own meth ret') (hX : XX s b L xs) (hd : decode cc pc = .ok (.arraylength, 1)) (k : Zk kC kS p l e R s m args below meth c nL Q (Hl D cy ad n s S) (pc + 1) lv (.int (nI L) :: st)) : Zk kC kS p l e R s m args below meth c nL Q (Hl D cy ad n s S) pc lv (.ref b :: st) :=
  fun H locs ls hh hl => va_slen (A := AH s) M.1.1 M.1.2.1 hX.1 hX.2.1 hX.no (by obtain ⟨rfl, -, hS⟩ := hh; exact hS) hd (k H locs ls hh hl)
theorem yl_ld {i : Nat} (M : MX p m c cc nL s args Ts own meth ret') (hX : XX s b L xs) (hi : i < L) (hd : decode cc pc = .ok (.iaload, 1)) (k : Zk kC kS p l e R s m args below meth c nL Q (Hl D cy ad n s S) (pc + 1) lv (.int (xs i) :: st)) : Zk kC kS p l e R s m args below meth c nL Q (Hl D cy ad n s S) pc lv (.int (nI i) :: .ref b :: st) := by
  intro H locs ls hh hl
  have h3 := hX.2.2
  have hcl : (nI i).toNatClampNeg = i := nI_clamp (by omega)
  refine va_sld (A := AH s) M.1.1 M.1.2.1 hX.1 hX.2.1 hX.no (by obtain ⟨rfl, -, hS⟩ := hh; exact hS) (vp_in_nI hi (by omega)) hd ?_
  rw [hcl]
  exact k H locs ls hh hl
/-- one argument out of the script -/
theorem yl_rd {k : Nat} {v1 v2 : Value} (j : Nat) (M : MX p m c cc 4 s args Ts own meth ret') (hX : XX s b L xs) (hk : k + 6 ≤ L) (hj : j < 6) (h0 : decode cc pc = .ok (.aload_n 0, 1)) (h1 : decode cc (pc + 1) = .ok (.iload_n 3, 1)) (h2 : decode cc (pc + 1 + 1) = .ok (.iconst (j : Int), 1)) (h3 : decode cc (pc + 1 + 1 + 1) = .ok (.iadd, 1)) (h4 : decode cc (pc + 1 + 1 + 1 + 1) = .ok (.iaload, 1)) (kk : Zk kC kS p l e R s m args below meth c 4 Q (Hl D cy ad n s S) (pc + 1 + 1 + 1 + 1 + 1) [(3, .int (nI k)), (0, .ref b), (1, v1), (2, v2)] (.int (xs (k + j)) :: st)) : Zk kC kS p l e R s m args below meth c 4 Q (Hl D cy ad n s S) pc [(3, .int (nI k)), (0, .ref b), (1, v1), (2, v2)] st := by
  refine y_aload_n M h0 rfl 1 rfl ?_
  refine y_iload_n M h1 rfl 0 rfl ?_
  refine y_iconst (v := nI j) M h2 (by rcases (show j = 0 ∨ j = 1 ∨ j = 2 ∨ j = 3 ∨ j = 4 ∨ j = 5 by omega) with rfl | rfl | rfl | rfl | rfl | rfl <;> decide) ?_
  refine y_iadd M h3 ?_
  rw [nI_add]
  exact yl_ld M hX (by omega) h4 kk
end LR
theorem lg_self (x : Int64) : lg_cmp x x = 0 := by
  unfold lg_cmp
  simp
/-! the cell that the constructors' argument is read from -/
def rmL_cell : Room := { frames := 0, cells := 0, slots := 0, locals := 0 }
def cell0 (L : Nat) (xs : Nat → Int32) : Int32 := if 0 < L then xs 0 else 0
theorem kL_cell (l : Launch) (b L : Nat) (xs : Nat → Int32) (hL : L ≤ 3073) : Met l yL_cell wsL_cell rmL_cell (fun v U => v = ([.ref b, .int 0] : List Value).toArray ∧ va_X b L xs U U.heap) (fun _ st oc t => oc = .returned (some (.int (cell0 L xs))) ∧ t.heap = st.heap) 0 0 (fun _ => False) := by
  refine Met.ofW (cc := cL_cell) (maxL := 2) (ret := some .int) (by decide) rfl ?_
  intro p e s m args below meth c s₁ B hml hv
  obtain ⟨hv, hX⟩ := hv
  subst hv
  rw [lg_entry_eq]
  have hbl : b < s.heap.size := by
    obtain ⟨scr, h1, -⟩ := hX
    exact (Array.getElem?_eq_some_iff.mp h1).1
  have M : MX p m c cL_cell 2 s ([.ref b, .int 0] : List Value).toArray wsL_cell RL meth (some .int) := ⟨⟨B.exec, B.bytes, hml, findClass_of_methodNamed B.named, atoms_spec (ws := wsL_cell) B.pre⟩, B.returns, B.notSynchronized⟩
  have go : Zz p l e rmL_cell s m ([.ref b, .int 0] : List Value).toArray below meth c 2 (Qp below ([.ref b, .int 0] : List Value).toArray s (some (.int (cell0 L xs)))) (Hp s) 0 (lv_args 0 [.ref b, .int 0]) [] := by
    refine z_iload_n (pc := 0) M dL_cell_0 rfl 1 rfl ?_
    refine z_aload_n (pc := 1) M dL_cell_1 rfl 0 rfl ?_
    have len : ∀ {st : List Value}, Zz p l e rmL_cell s m ([.ref b, .int 0] : List Value).toArray below meth c 2 (Qp below ([.ref b, .int 0] : List Value).toArray s (some (.int (cell0 L xs)))) (Hp s) (2 + 1) (lv_args 0 [.ref b, .int 0]) (.int (nI L) :: st) → Zz p l e rmL_cell s m ([.ref b, .int 0] : List Value).toArray below meth c 2 (Qp below ([.ref b, .int 0] : List Value).toArray s (some (.int (cell0 L xs)))) (Hp s) 2 (lv_args 0 [.ref b, .int 0]) (.ref b :: st) := fun k H locs ls hh hl => va_slen (A := fun _ => False) M.1.1 M.1.2.1 hX hbl (fun q => q) (by obtain ⟨rfl, rfl⟩ := hh; exact va_S.rf) dL_cell_2 (k H locs ls hh hl)
    refine len ?_
    refine z_icmp_ge (X := some ()) (Y := some ()) (res := ()) (pc := 3) 12 M dL_cell_3 rfl (ite_self _) (fun q _ => ?_) (fun q _ => ?_)
    · have hz : ¬ 0 < L := fun hp => nI_nle hp (by omega) q
      refine z_iconst (v := 0) (pc := 12) M dL_cell_12 (by decide) ?_
      exact z_iretP (pc := 13) M (by unfold cell0; rw [if_neg hz]) dL_cell_13
    · have hz : 0 < L := by
        rcases Nat.eq_zero_or_pos L with z | z
        · subst z; exact absurd (show nI 0 ≤ (0 : Int32) by decide) q
        · exact z
      refine z_aload_n (pc := 6) M dL_cell_6 rfl 0 rfl ?_
      refine z_iload_n (pc := 7) M dL_cell_7 rfl 1 rfl ?_
      have ld : Zz p l e rmL_cell s m ([.ref b, .int 0] : List Value).toArray below meth c 2 (Qp below ([.ref b, .int 0] : List Value).toArray s (some (.int (cell0 L xs)))) (Hp s) (8 + 1) (lv_args 0 [.ref b, .int 0]) [.int (xs 0)] → Zz p l e rmL_cell s m ([.ref b, .int 0] : List Value).toArray below meth c 2 (Qp below ([.ref b, .int 0] : List Value).toArray s (some (.int (cell0 L xs)))) (Hp s) 8 (lv_args 0 [.ref b, .int 0]) [.int 0, .ref b] := fun k H locs ls hh hl => va_sld (A := fun _ => False) M.1.1 M.1.2.1 hX hbl (fun q => q) (by obtain ⟨rfl, rfl⟩ := hh; exact va_S.rf) (i := nI 0) (vp_in_nI hz (by omega)) dL_cell_8 (k H locs ls hh hl)
      refine ld ?_
      refine z_goto 13 (pc := 9) M dL_cell_9 rfl ?_
      exact z_iretP (pc := 13) M (by unfold cell0; rw [if_pos hz]) dL_cell_13
  exact go _ _ _ ⟨rfl, rfl⟩ (lv_entry [.ref b, .int 0] (Nat.le_of_ble_eq_true rfl))
