/-! ===== the law: its loop, its start ===== -/
section LL
variable {p : Program} {l : Launch} {e : Env} {s : State} {m : MethodId} {below : List Frame} {meth : Method} {c : Code} {D : va_G} {cy ad : Nat → Nat} {n b L : Nat} {xs : Nat → Int32}
theorem y_tabIn {kC kS : Nat} {R : Room} {args : Array Value} {nL : Nat} {Q : State → Prop} {HP : Heap → List Loc → Prop} {cc : ByteArray} {Ts : List Cond} {own : String} {ret' : Option FieldType} {pc : Nat} {lv : List (Nat × Value)} {st : List Value} {dflt lo hi : Int} {offs : Array Int} {len : Nat} {x : Int32} {off : Int} {tgt : Nat} (M : MX p m c cc nL s args Ts own meth ret') (hd : decode cc pc = .ok (.tableswitch dflt lo hi offs, len)) (h1 : ¬ x.toInt < lo) (h2 : ¬ hi < x.toInt) (ho : offs[(x.toInt - lo).toNat]? = some off) (ht : (pc : Int) + off = (tgt : Int)) (k : Zk kC kS p l e R s m args below meth c nL Q HP tgt lv st) : Zk kC kS p l e R s m args below meth c nL Q HP pc lv (.int x :: st) :=
  fun H locs ls h hl => lv_tableIn M.1.1 M.1.2.1 hd h1 h2 ho ht (k H locs ls h hl)
theorem y_tabOut {kC kS : Nat} {R : Room} {args : Array Value} {nL : Nat} {Q : State → Prop} {HP : Heap → List Loc → Prop} {cc : ByteArray} {Ts : List Cond} {own : String} {ret' : Option FieldType} {pc : Nat} {lv : List (Nat × Value)} {st : List Value} {dflt lo hi : Int} {offs : Array Int} {len : Nat} {x : Int32} {tgt : Nat} (M : MX p m c cc nL s args Ts own meth ret') (hd : decode cc pc = .ok (.tableswitch dflt lo hi offs, len)) (h : x.toInt < lo ∨ hi < x.toInt) (ht : (pc : Int) + dflt = (tgt : Int)) (k : Zk kC kS p l e R s m args below meth c nL Q HP tgt lv st) : Zk kC kS p l e R s m args below meth c nL Q HP pc lv (.int x :: st) :=
  fun H locs ls hh hl => lv_tableOut M.1.1 M.1.2.1 hd h ht (k H locs ls hh hl)
theorem law_exit {lv : List (Nat × Value)} {S : St} (M : MX p m c cL_law 4 s #[Value.ref b] wsL_law RL meth ret) : Zk 48 1743 p l e room_1 s m #[Value.ref b] below meth c 4 (lw_Z below #[Value.ref b] s) (Hl D cy ad n s S) 1333 lv [] := by
  refine y_iconst (v := 1) (pc := 1333) M dL_law_1333 (by decide) (fun H locs ls hh hl => ?_)
  obtain ⟨rfl, -, -⟩ := hh
  exact W.widen (k := 600000) (n := 7302249) (by omega) (by omega) (lw_ret M.1.1 M.1.2.1 M.2.1 M.2.2 dL_law_1334)
theorem stop_iff {k : Nat} (hL : L ≤ 3073) (hk : k ≤ L + 6) : nI L - nI 6 < nI k ↔ L < k + 6 := by
  rw [Int32.lt_iff_toInt_lt, pk_sub_toInt (by omega) (by decide), nI_toInt (by omega)]
  omega
theorem law_loop (M : MX p m c cL_law 4 s #[Value.ref b] wsL_law RL meth ret) (K : KK D cy ad s) (hAd : ∀ r, r < 48 → s.heap.size ≤ ad r) (hX : XX s b L xs) : ∀ f k S, L ≤ k + 6 * f → k ≤ L + 6 → Rel n S → Zk 48 1743 p l e room_1 s m #[Value.ref b] below meth c 4 (lw_Z below #[Value.ref b] s) (Hl D cy ad n s S) 28 (lvL ad b k) [] := by
  intro f
  induction f with
  | zero =>
    intro k S h1 h2 hR
    unfold lvL
    refine y_iload_n (pc := 28) M dL_law_28 rfl 0 rfl ?_
    refine y_aload_n (pc := 29) M dL_law_29 rfl 1 rfl ?_
    refine yl_len (pc := 30) M hX dL_law_30 ?_
    refine y_bipush (v := nI 6) (pc := 31) M dL_law_31 (by decide) ?_
    refine y_isub (pc := 33) M dL_law_33 ?_
    refine y_icmp_gt (X := some ()) (Y := some ()) (res := ()) (pc := 34) 1333 M dL_law_34 rfl (ite_self _) (fun _ _ => law_exit M) (fun q _ => absurd ((stop_iff hX.2.2 h2).mpr (by omega)) q)
  | succ f ih =>
    intro k S h1 h2 hR
    have next : k + 6 ≤ L → ∀ S', Rel n S' → Zk 48 1743 p l e room_1 s m #[Value.ref b] below meth c 4 (lw_Z below #[Value.ref b] s) (Hl D cy ad n s S') 1327 (lvL ad b k) [] := fun hk S' hR' => by
      refine y_iinc (pc := 1327) M dL_law_1327 (nI (k + 6)) (by rw [← nI_add]; rfl) 0 rfl (by decide) [0, 1, 2, 3] (lvL ad b (k + 6)) rfl ?_
      refine y_goto 28 (pc := 1330) M dL_law_1330 rfl ?_
      exact ih (k + 6) S' (by omega) (by omega) hR'
    have tab : k + 6 ≤ L → ∀ j, j < 32 → Zk 48 1743 p l e room_1 s m #[Value.ref b] below meth c 4 (lw_Z below #[Value.ref b] s) (Hl D cy ad n s S) 43 (lvL ad b k) [.int (nI j)] := fun hk j hj =>
      match j, hj with
      | 0, _ => y_tabIn (off := 133) (tgt := 176) (pc := 43) M dL_law_43 (by decide) (by decide) (by decide) (by decide) (case_entry M K hAd hX hk hR (next hk))
      | 1, _ => y_tabIn (off := 186) (tgt := 229) (pc := 43) M dL_law_43 (by decide) (by decide) (by decide) (by decide) (case_told M K hAd hX hk hR (next hk))
      | 2, _ => y_tabIn (off := 229) (tgt := 272) (pc := 43) M dL_law_43 (by decide) (by decide) (by decide) (by decide) (case_worth M K hAd hX hk hR (next hk))
      | 3, _ => y_tabIn (off := 263) (tgt := 306) (pc := 43) M dL_law_43 (by decide) (by decide) (by decide) (by decide) (case_why M K hAd hX hk hR (next hk))
      | 4, _ => y_tabIn (off := 286) (tgt := 329) (pc := 43) M dL_law_43 (by decide) (by decide) (by decide) (by decide) (case_whole M K hAd hX hk hR (next hk))
      | 5, _ => y_tabIn (off := 310) (tgt := 353) (pc := 43) M dL_law_43 (by decide) (by decide) (by decide) (by decide) (case_shun M K hAd hX hk hR (next hk))
      | 6, _ => y_tabIn (off := 343) (tgt := 386) (pc := 43) M dL_law_43 (by decide) (by decide) (by decide) (by decide) (case_edge M K hAd hX hk hR (next hk))
      | 7, _ => y_tabIn (off := 396) (tgt := 439) (pc := 43) M dL_law_43 (by decide) (by decide) (by decide) (by decide) (case_all M K hAd hX hk hR (next hk))
      | 8, _ => y_tabIn (off := 420) (tgt := 463) (pc := 43) M dL_law_43 (by decide) (by decide) (by decide) (by decide) (case_trees M K hAd hX hk hR (next hk))
      | 9, _ => y_tabIn (off := 453) (tgt := 496) (pc := 43) M dL_law_43 (by decide) (by decide) (by decide) (by decide) (case_tell M K hAd hX hk hR (next hk))
      | 10, _ => y_tabIn (off := 486) (tgt := 529) (pc := 43) M dL_law_43 (by decide) (by decide) (by decide) (by decide) (case_hand M K hAd hX hk hR (next hk))
      | 11, _ => y_tabIn (off := 509) (tgt := 552) (pc := 43) M dL_law_43 (by decide) (by decide) (by decide) (by decide) (case_given M K hAd hX hk hR (next hk))
      | 12, _ => y_tabIn (off := 562) (tgt := 605) (pc := 43) M dL_law_43 (by decide) (by decide) (by decide) (by decide) (case_thin M K hAd hX hk hR (next hk))
      | 13, _ => y_tabIn (off := 605) (tgt := 648) (pc := 43) M dL_law_43 (by decide) (by decide) (by decide) (by decide) (case_part M K hAd hX hk hR (next hk))
      | 14, _ => y_tabIn (off := 648) (tgt := 691) (pc := 43) M dL_law_43 (by decide) (by decide) (by decide) (by decide) (case_other M K hAd hX hk hR (next hk))
      | 15, _ => y_tabIn (off := 691) (tgt := 734) (pc := 43) M dL_law_43 (by decide) (by decide) (by decide) (by decide) (case_mix M K hAd hX hk hR (next hk))
      | 16, _ => y_tabIn (off := 754) (tgt := 797) (pc := 43) M dL_law_43 (by decide) (by decide) (by decide) (by decide) (case_share M K hAd hX hk hR (next hk))
      | 17, _ => y_tabIn (off := 788) (tgt := 831) (pc := 43) M dL_law_43 (by decide) (by decide) (by decide) (by decide) (case_chance M K hAd hX hk hR (next hk))
      | 18, _ => y_tabIn (off := 832) (tgt := 875) (pc := 43) M dL_law_43 (by decide) (by decide) (by decide) (by decide) (case_within M K hAd hX hk hR (next hk))
      | 19, _ => y_tabIn (off := 876) (tgt := 919) (pc := 43) M dL_law_43 (by decide) (by decide) (by decide) (by decide) (case_out M K hAd hX hk hR (next hk))
      | 20, _ => y_tabIn (off := 920) (tgt := 963) (pc := 43) M dL_law_43 (by decide) (by decide) (by decide) (by decide) (case_size M K hAd hX hk hR (next hk))
      | 21, _ => y_tabIn (off := 964) (tgt := 1007) (pc := 43) M dL_law_43 (by decide) (by decide) (by decide) (by decide) (case_mean M K hAd hX hk hR (next hk))
      | 22, _ => y_tabIn (off := 998) (tgt := 1041) (pc := 43) M dL_law_43 (by decide) (by decide) (by decide) (by decide) (case_spread M K hAd hX hk hR (next hk))
      | 23, _ => y_tabIn (off := 1032) (tgt := 1075) (pc := 43) M dL_law_43 (by decide) (by decide) (by decide) (by decide) (case_both M K hAd hX hk hR (next hk))
      | 24, _ => y_tabIn (off := 1086) (tgt := 1129) (pc := 43) M dL_law_43 (by decide) (by decide) (by decide) (by decide) (case_shuns M K hAd hX hk hR (next hk))
      | 25, _ => y_tabIn (off := 1109) (tgt := 1152) (pc := 43) M dL_law_43 (by decide) (by decide) (by decide) (by decide) (case_rises M K hAd hX hk hR (next hk))
      | 26, _ => y_tabIn (off := 1132) (tgt := 1175) (pc := 43) M dL_law_43 (by decide) (by decide) (by decide) (by decide) (case_greatest M K hAd hX hk hR (next hk))
      | 27, _ => y_tabIn (off := 1155) (tgt := 1198) (pc := 43) M dL_law_43 (by decide) (by decide) (by decide) (by decide) (case_greedy M K hAd hX hk hR (next hk))
      | 28, _ => y_tabIn (off := 1188) (tgt := 1231) (pc := 43) M dL_law_43 (by decide) (by decide) (by decide) (by decide) (case_same M K hAd hX hk hR (next hk))
      | 29, _ => y_tabIn (off := 1221) (tgt := 1264) (pc := 43) M dL_law_43 (by decide) (by decide) (by decide) (by decide) (case_draw M K hAd hX hk hR (next hk))
      | 30, _ => y_tabOut (tgt := 1327) (pc := 43) M dL_law_43 (by decide) (by decide) (next hk S hR)
      | 31, _ => y_tabOut (tgt := 1327) (pc := 43) M dL_law_43 (by decide) (by decide) (next hk S hR)
      | j + 32, hj => absurd hj (by omega)
    unfold lvL
    refine y_iload_n (pc := 28) M dL_law_28 rfl 0 rfl ?_
    refine y_aload_n (pc := 29) M dL_law_29 rfl 1 rfl ?_
    refine yl_len (pc := 30) M hX dL_law_30 ?_
    refine y_bipush (v := nI 6) (pc := 31) M dL_law_31 (by decide) ?_
    refine y_isub (pc := 33) M dL_law_33 ?_
    refine y_icmp_gt (X := some ()) (Y := some ()) (res := ()) (pc := 34) 1333 M dL_law_34 rfl (ite_self _) (fun _ _ => law_exit M) (fun q _ => ?_)
    have hk : k + 6 ≤ L := by
      have hq : ¬ L < k + 6 := fun z => q ((stop_iff hX.2.2 h2).mpr z)
      omega
    refine y_aload_n (pc := 37) M dL_law_37 rfl 1 rfl ?_
    refine y_iload_n (pc := 38) M dL_law_38 rfl 0 rfl ?_
    refine yl_ld (i := k) (pc := 39) M hX (by omega) dL_law_39 ?_
    refine y_bipush (v := 31) (pc := 40) M dL_law_40 (by decide) ?_
    refine y_iand (pc := 42) M dL_law_42 ?_
    obtain ⟨j, hj, ej⟩ := pk_andE (xs k) (m := 31) 5 (by decide)
    rw [ej]
    exact tab hk j hj
/-- the argument of both constructors -/
theorem yl_cell {kC kS : Nat} {A : Nat → Prop} {ws : va_W} {pc : Nat} {lv : List (Nat × Value)} {st : List Value} {Q : State → Prop} (M : MX p m c cL_law 4 s #[Value.ref b] wsL_law RL meth ret) (hX : XX s b L xs) (hno : ¬ A b) (hW : (st.map fun v => v.category).sum ≤ 8) (hkc : kC ≤ room_1.cells) (hks : kS ≤ room_1.slots) (hd : decode cL_law pc = .ok (.invokestatic 9, 3)) (k : Zk kC kS p l e room_1 s m #[Value.ref b] below meth c 4 Q (Hg D A s ws) (pc + 3) lv (.int (cell0 L xs) :: st)) : Zk kC kS p l e room_1 s m #[Value.ref b] below meth c 4 Q (Hg D A s ws) pc lv (.int 0 :: .ref b :: st) := by
  intro H locs ls hh hl
  have hXH : va_X b L xs s H := hX.1.kept (hh.2.2.2.1 b hX.2.1 hno)
  have hrun := va_runS (p := p) (e := e) (R := room_1) (s := s) (m := m) (args := #[Value.ref b]) (below := below) (meth := meth) (c := c) (H := H) (locs := locs) (cells := kC) (slots := kS) (rest := st) (g := F0 m pc ls (.int 0 :: .ref b :: st)) (As := [.ref b, .int 0]) M.1 (kL_cell l b L xs hX.2.2) (va_cwS 2 M.1.2.2.2.2 gL_law_L_cell rfl rfl rfl (by decide +kernel) ⟨Nat.le_of_ble_eq_true rfl, Nat.le_of_ble_eq_true rfl⟩) ⟨fun a U g mk q => ⟨q.1, va_X.moved (u := U) (U := U.calling g mk a) (Vm.Alike.refl U.vm) q.2⟩, fun U hU hW => ⟨rfl, by rw [hU]; exact hXH.moved hW.alike⟩⟩ rfl rfl hl.1 rfl (lv_room hW) hd ⟨hkc, hks⟩
  intro T hT X
  obtain ⟨v', st₀, t, T', L', h0, X', hL, e1, e2, ⟨hv, hh2⟩, stp⟩ := hrun T hT X
  cases hv
  obtain ⟨t2, a1, b1⟩ := k H locs ls hh hl T' (by rw [e1, hh2, h0]) (Stand.forget X' (fun q h => (hL q h).elim))
  exact ⟨t2, stp t2 a1, b1⟩
end LL
theorem clamp2 (x : Int32) : ∃ n, 2 ≤ n ∧ n ≤ 6 ∧ (if (2 : Int32) < (if x < 6 then x else 6) then (if x < 6 then x else 6) else 2) = nI n ∧ (if x < 2 then (2 : Int32) else if 6 < x then 6 else x) = nI n := by
  have lt : ∀ a b : Int32, a < b ↔ a.toInt < b.toInt := fun a b => Int32.lt_iff_toInt_lt
  have t2 : (2 : Int32).toInt = 2 := by decide
  have t6 : (6 : Int32).toInt = 6 := by decide
  by_cases c1 : x < 2
  · have d1 := (lt _ _).mp c1
    rw [t2] at d1
    have c2 : x < 6 := (lt _ _).mpr (by rw [t6]; omega)
    have c3 : ¬ (2 : Int32) < x := fun q => by have := (lt _ _).mp q; rw [t2] at this; omega
    exact ⟨2, by omega, by omega, by rw [if_pos c2, if_neg c3]; rfl, by rw [if_pos c1]; rfl⟩
  · have d1 : ¬ x.toInt < 2 := fun q => c1 ((lt _ _).mpr (by rw [t2]; exact q))
    by_cases c2 : 6 < x
    · have d2 := (lt _ _).mp c2
      rw [t6] at d2
      have c3 : ¬ x < 6 := fun q => by have := (lt _ _).mp q; rw [t6] at this; omega
      exact ⟨6, by omega, by omega, by rw [if_neg c3, if_pos (show (2 : Int32) < 6 by decide)]; rfl, by rw [if_neg c1, if_pos c2]; rfl⟩
    · have d2 : ¬ 6 < x.toInt := fun q => c2 ((lt _ _).mpr (by rw [t6]; exact q))
      have ex : x = nI x.toInt.toNat := by
        apply Int32.toInt_inj.mp
        rw [nI_toInt (by omega)]
        omega
      refine ⟨x.toInt.toNat, by omega, by omega, ?_, by rw [if_neg c1, if_neg c2]; exact ex⟩
      by_cases c3 : x < 6
      · rw [if_pos c3]
        by_cases c4 : (2 : Int32) < x
        · rw [if_pos c4]; exact ex
        · have d4 : ¬ 2 < x.toInt := fun q => c4 ((lt _ _).mpr (by rw [t2]; exact q))
          rw [if_neg c4, show x.toInt.toNat = 2 by omega]; rfl
      · have d3 : ¬ x.toInt < 6 := fun q => c3 ((lt _ _).mpr (by rw [t6]; exact q))
        rw [if_neg c3, if_pos (show (2 : Int32) < 6 by decide), show x.toInt.toNat = 6 by omega]; rfl
theorem rel0 {n : Nat} (h2 : 2 ≤ n) (h6 : n ≤ 6) : Rel n S0 := by
  refine ⟨h2, h6, fun t i j _ _ _ => ⟨rfl, show (-5 : Int) ≤ (0 : Int32).toInt by decide, show (0 : Int32).toInt ≤ 5 by decide⟩, fun i _ => ⟨⟨rfl, rfl, rfl⟩, ⟨0, by decide, rfl⟩, ⟨0, by decide, rfl⟩, ⟨0, by decide, rfl⟩⟩, fun s _ => ⟨rfl, 0, by decide, rfl⟩, fun l _ => ⟨rfl, fun q => absurd rfl q⟩⟩
