/-! THE LAW: its start -/
theorem sw258 : Cond.laysStatic RX4 "HOUSE_FROM" "[I" ∈ lw_tbl := List.mem_append_right _ (List.mem_of_getElem? (i := 258) (by decide +kernel))
theorem sw260 : Cond.laysStatic RX4 "HOUSE_TO" "[I" ∈ lw_tbl := List.mem_append_right _ (List.mem_of_getElem? (i := 260) (by decide +kernel))
theorem sw278 : Cond.laysStatic RX4 "SERVICE_FROM" "[I" ∈ lw_tbl := List.mem_append_right _ (List.mem_of_getElem? (i := 278) (by decide +kernel))
theorem sw283 : Cond.laysStatic RX4 "SERVICE_TO" "[I" ∈ lw_tbl := List.mem_append_right _ (List.mem_of_getElem? (i := 283) (by decide +kernel))
theorem sw57 : Cond.arrayOver (.object RX2) ∈ lw_tbl := List.mem_append_right _ (List.mem_of_getElem? (i := 57) (by decide +kernel))
theorem sw64 : Cond.arrayOver (.object RX1) ∈ lw_tbl := List.mem_append_right _ (List.mem_of_getElem? (i := 64) (by decide +kernel))
theorem sw197 : Cond.arrayOver (.object RX0) ∈ lw_tbl := List.mem_append_right _ (List.mem_of_getElem? (i := 197) (by decide +kernel))
theorem sw10 : Cond.classLink RL 7 RX4 ∈ gW := List.mem_filter.mpr ⟨List.mem_append_right _ (List.mem_of_getElem? (i := 10) (by decide +kernel)), (by decide +kernel)⟩
theorem sw11 : Cond.instantiable RX4 7 ∈ gW := List.mem_filter.mpr ⟨List.mem_append_right _ (List.mem_of_getElem? (i := 11) (by decide +kernel)), (by decide +kernel)⟩
theorem sw12 : Cond.methodLink RL 9 yX4_init ∈ gW := List.mem_filter.mpr ⟨List.mem_append_right _ (List.mem_of_getElem? (i := 12) (by decide +kernel)), (by decide +kernel)⟩
theorem sw13 : Cond.instanceMethod yX4_init ∈ gW := List.mem_filter.mpr ⟨List.mem_append_right _ (List.mem_of_getElem? (i := 13) (by decide +kernel)), (by decide +kernel)⟩
theorem sw14 : Cond.code yX4_init cX4_init 2 none ∈ gW := List.mem_filter.mpr ⟨List.mem_append_right _ (List.mem_of_getElem? (i := 14) (by decide +kernel)), (by decide +kernel)⟩
theorem sw545 : Cond.classLink RL 10 RX5 ∈ gW := List.mem_filter.mpr ⟨List.mem_append_right _ (List.mem_of_getElem? (i := 545) (by decide +kernel)), (by decide +kernel)⟩
theorem sw546 : Cond.instantiable RX5 19 ∈ gW := List.mem_filter.mpr ⟨List.mem_append_right _ (List.mem_of_getElem? (i := 546) (by decide +kernel)), (by decide +kernel)⟩
theorem sw547 : Cond.methodLink RL 12 yX5_init ∈ gW := List.mem_filter.mpr ⟨List.mem_append_right _ (List.mem_of_getElem? (i := 547) (by decide +kernel)), (by decide +kernel)⟩
theorem sw548 : Cond.instanceMethod yX5_init ∈ gW := List.mem_filter.mpr ⟨List.mem_append_right _ (List.mem_of_getElem? (i := 548) (by decide +kernel)), (by decide +kernel)⟩
theorem sw549 : Cond.code yX5_init cX5_init 1 none ∈ gW := List.mem_filter.mpr ⟨List.mem_append_right _ (List.mem_of_getElem? (i := 549) (by decide +kernel)), (by decide +kernel)⟩
def KdP (own : String) (i1 i2 : Nat) (y : MethodName) (code : ByteArray) (maxL ci N : Nat) (fs : List Value) : Prop := ∃ T ty, CLS ci y.cls T N ty ∧ (∀ j, j < N → defaultValue (ty j) = vp_V fs j) ∧ Cond.classLink own i1 y.cls ∈ gW ∧ Cond.instantiable y.cls N ∈ gW ∧ Cond.initialized y.cls ∈ gW ∧ Cond.code y code maxL none ∈ gW ∧ Cond.instanceMethod y ∈ gW ∧ Cond.methodLink own i2 y ∈ gW ∧ y.name = "<init>" ∧ (y.cls ≠ "java/lang/invoke/MethodHandle" ∧ y.cls ≠ "java/lang/invoke/VarHandle" ∧ (parseMethodDescriptor y.desc).map (fun d => d.parameters.length) = some 0)
theorem kdL4 : KdP RL 7 9 yX4_init cX4_init 2 4 7 [.null, .null, .null, .null, .int (Int32.ofInt 0), .int (Int32.ofInt 0), .int (Int32.ofInt 0)] := ⟨TX4, tyX4, cls4, (fun j hj => by
  rcases (by omega : j = 0 ∨ j = 1 ∨ j = 2 ∨ j = 3 ∨ j = 4 ∨ j = 5 ∨ j = 6) with rfl | rfl | rfl | rfl | rfl | rfl | rfl <;> rfl), sw10, sw11, gw1, sw14, sw13, sw12, rfl, by decide +kernel⟩
theorem kdL5 : KdP RL 10 12 yX5_init cX5_init 1 5 19 [.null, .int (Int32.ofInt 0), .null, .null, .null, .null, .null, .null, .null, .null, .null, .int (Int32.ofInt 0), .int (Int32.ofInt 0), .int (Int32.ofInt 0), .int (Int32.ofInt 0), .int (Int32.ofInt 0), .int (Int32.ofInt 0), .int (Int32.ofInt 0), .int (Int32.ofInt 0)] := ⟨TX5, tyX5, cls5, (fun j hj => by
  rcases (by omega : j = 0 ∨ j = 1 ∨ j = 2 ∨ j = 3 ∨ j = 4 ∨ j = 5 ∨ j = 6 ∨ j = 7 ∨ j = 8 ∨ j = 9 ∨ j = 10 ∨ j = 11 ∨ j = 12 ∨ j = 13 ∨ j = 14 ∨ j = 15 ∨ j = 16 ∨ j = 17 ∨ j = 18) with rfl | rfl | rfl | rfl | rfl | rfl | rfl | rfl | rfl | rfl | rfl | rfl | rfl | rfl | rfl | rfl | rfl | rfl | rfl <;> rfl), sw545, sw546, gw6, sw549, sw548, sw547, rfl, by decide +kernel⟩
section T93
variable {p : Program} {l : Launch} {e : Env} {R : Room} {s : State} {m : MethodId} {args : Array Value} {below : List Frame} {meth : Method} {c : Code} {H : Heap} {locs : List Loc} {cells slots : Nat} {Q : State → Prop}
variable {cc : ByteArray} {pc nL : Nat} {ls : Array Slot} {rest : List Value} {D : va_G} {cT : Nat → ClassId} {A : Nat → Prop} {X pl : va_W}
theorem kidP {own : String} {y : MethodName} {code : ByteArray} {maxL d ci sz mc ms N i1 i2 : Nat} {fs : List Value} {ly : Nat → Nat} {I : Mem → Prop} (hk : KC y code maxL d ci fs ly sz mc ms I) (hx : p.tables.exec = Jvm.exec) (hb : c.code = cc) (hml : c.maxLocals = nL) (hown : s.vm.findClass own = some m.cls) (hg : ∀ w ∈ gW, w.before args s = true) (hW : CW D cT s) (hA : ∀ q : Nat, s.heap.size ≤ q → A q) (hl : ls.size = nL) (hd : KdP own i1 i2 y code maxL ci N fs)
    (hP : va_P D vwCl (X ++ pl) H) (hD : va_D A (X ++ pl)) (hS : va_S A s.heap H locs) (hR : d + 1 ≤ R.frames ∧ 8 + (maxL + 11) + 40 * d ≤ R.locals) (hcells : cells + (1 + mc) ≤ R.cells) (hslots : slots + (N + ms) ≤ R.slots) (hr8 : 1 + (rest.map fun v => v.category).sum ≤ 8)
    (d1 : decode cc pc = .ok (.new i1, 3)) (d2 : decode cc (pc + 3) = .ok (.dup, 1)) (d3 : decode cc (pc + 4) = .ok (.invokespecial i2, 3))
    (kk : ∀ (u : (Nat → Nat) × Mem) (H1 : Heap) (locs1 : List Loc), I u.2 → va_P D vwCl (X ++ (blkL ly sz u.1 cT u.2 ++ pl)) H1 → va_D A (X ++ (blkL ly sz u.1 cT u.2 ++ pl)) → va_S A s.heap H1 locs1 → W p l e R s m args below meth c H1 locs1 (cells + (1 + mc)) (slots + (N + ms)) Q (F0 m (pc + 7) ls (.ref (u.1 0) :: rest))) : W p l e R s m args below meth c H locs cells slots Q (F0 m pc ls rest) := by
  obtain ⟨T, ty, hC, hfs, w1, w2, w3, w4, w5, w6, hnm, hdesc⟩ := hd
  refine va_new hx hb hg hC.2.1 ty hC.2.2.1 hown (hg _ w1) (hg _ w2) (hg _ w3) hW.1 hP hD hS hA hC.1 hfs (by omega) (by omega) d1 (fun q H2 hP2 hD2 hS2 => ?_)
  refine lv_dup hx hb d2 rfl ?_
  have hG : GoodIn gW (Cond.code y code maxL none :: gW) := by
    intro q hq
    have hq2 : q ∈ gW := by
      rcases List.mem_cons.mp hq with rfl | h2
      · exact w4
      · exact h2
    exact ⟨hq2, good_of_word (gW_good q hq2)⟩
  have cw := callB_of (R := R) (rm := rmC d mc ms) (mc := mc) (ms := ms) 0 hg hG rfl rfl rfl (hg _ w3) (hg _ w6) hdesc hR
  have hpre : ∀ U : State, U.heap = H2 → s.WarmedH U.vm → va_Pc [.ref q] (fun U => U.heap.size = H2.size ∧ va_P D vwCl [(q, .inr (ci, fs))] U.heap ∧ CW D cT U) [Value.ref q].toArray U := by
    intro U hU hWm
    refine ⟨rfl, by rw [hU], ?_, hW.warm hWm⟩
    rw [hU]
    rw [vP_mem] at hP2 ⊢
    exact fun x hx => hP2 x (List.mem_append_right _ hx)
  have hfree : ∀ x, va_A [(q, (.inr (ci, fs) : va_E))] H2.size x → A x := by
    intro x hx
    rcases hx with ⟨k, ee, h⟩ | h
    · have hm : (x, ee) ∈ X ++ pl ++ [(q, (.inr (ci, fs) : va_E))] := List.mem_append_right _ (List.mem_of_getElem? h)
      obtain ⟨j, hj⟩ := List.getElem?_of_mem hm
      exact hD2.2 j _ hj
    · exact hA x (Nat.le_trans hS2.1 h)
  refine va_callv (va_runI (As := []) (rest := .ref q :: rest) (b := q) ⟨hx, hb, hml, hown, hg⟩ (hk l D cT q H2.size) ⟨cw, hnm, hg _ w5⟩ ⟨KC.blind, hpre⟩ rfl rfl hl rfl (lv_room (by rw [List.map_cons, List.sum_cons]; exact hr8)) d3 (by constructor <;> (show _ ≤ _) <;> omega)) hS2 (fun x _ h => hfree x h) hfree (fun u t H3 locs3 ht hal hpost hB hsz3 hk3 hS3 => ?_)
  subst ht
  obtain ⟨h0, hI⟩ := hpost
  obtain ⟨j1, j2⟩ := vjoin hP2 hD2 hk3 hfree hB.1 hB.2
  rw [← h0]
  refine W.eq (g2 := F0 m (pc + 7) ls (.ref (u.1 0) :: rest)) rfl ?_
  rw [Nat.add_assoc cells, Nat.add_assoc slots]
  exact kk u t.heap locs3 hI j1 j2 hS3
end T93
theorem ao_class {U : State} {C : String} (h : va_AO C U) : ∃ cA : ClassId, ArrOfT U cA (.object C) ∧ va_RA U cA (.object C) := by
  obtain ⟨comp, cA, kA, h1, h2, h3, h4, h5⟩ := Cond.arrayOver_spec h
  exact ⟨cA, fun N z => ⟨(fun k h => by cases h), kA, h3, comp, h4⟩, kA, comp, h3, h4, h1, h5⟩
theorem ai_class {U : State} {args : Array Value} (h : (Cond.arrayClass .int).before args U = true) : ∃ cA : ClassId, ArrOfT U cA .int ∧ va_RA U cA .int := by
  obtain ⟨cA, kA, comp, h1, h2, h3⟩ := Cond.arrayClass_spec h
  exact ⟨cA, fun N z => ⟨(fun k h => by cases h), kA, h2, comp, h3⟩, h1⟩
theorem law_stt {s : State} {b : Nat} (hg : ∀ w ∈ gW, w.before #[Value.ref b] s = true) (hts : ∀ w ∈ lw_tbl, w.before #[Value.ref b] s = true) (hgv : (Jvm.Cond.and given_1 narrow_1).before #[Value.ref b] s = true) : ∃ sv, Stt sv (fun q => s.heap.size ≤ q) s s.heap := by
  have hs := flat_of_before _ hgv
  obtain ⟨t0, ev0, T0⟩ := va_Tof (args := #[Value.ref b]) (s := s) (tm := (Term.static "EnoughServers" "HOUSE_FROM" "[I")) (ty := .int) (N := 5) (f := fun j => .int (Int32.ofInt ((stL 0).getD j 0))) (A := fun q => s.heap.size ≤ q) (by decide) (hs (Cond.arrayOf (Term.static "EnoughServers" "HOUSE_FROM" "[I") .int) (by decide +kernel)) (va_eqt (hs (Cond.eq (Term.length (Term.static "EnoughServers" "HOUSE_FROM" "[I")) (.int (Int32.ofNat 5))) (by decide +kernel))) (fun j hj => by
    rcases (by omega : j = 0 ∨ j = 1 ∨ j = 2 ∨ j = 3 ∨ j = 4) with rfl | rfl | rfl | rfl | rfl
    · exact va_eqt (hs (Cond.eq (Term.elem (Term.static "EnoughServers" "HOUSE_FROM" "[I") (.int (Int32.ofNat 0))) (.int (Int32.ofInt (1)))) (by decide +kernel))
    · exact va_eqt (hs (Cond.eq (Term.elem (Term.static "EnoughServers" "HOUSE_FROM" "[I") (.int (Int32.ofNat 1))) (.int (Int32.ofInt (1)))) (by decide +kernel))
    · exact va_eqt (hs (Cond.eq (Term.elem (Term.static "EnoughServers" "HOUSE_FROM" "[I") (.int (Int32.ofNat 2))) (.int (Int32.ofInt (0)))) (by decide +kernel))
    · exact va_eqt (hs (Cond.eq (Term.elem (Term.static "EnoughServers" "HOUSE_FROM" "[I") (.int (Int32.ofNat 3))) (.int (Int32.ofInt (0)))) (by decide +kernel))
    · exact va_eqt (hs (Cond.eq (Term.elem (Term.static "EnoughServers" "HOUSE_FROM" "[I") (.int (Int32.ofNat 4))) (.int (Int32.ofInt (2)))) (by decide +kernel))) (fun a h1 h2 => absurd h1 (Nat.not_lt.mpr h2))
  have Z0 : va_Z RX4 (stN 0) "[I" (.ref t0) (fun q => s.heap.size ≤ q) s s.heap := va_Zref (hts _ sw258) (hg _ gw1) ev0 (fun a h1 h2 => absurd h1 (Nat.not_lt.mpr h2))
  obtain ⟨t1, ev1, T1⟩ := va_Tof (args := #[Value.ref b]) (s := s) (tm := (Term.static "EnoughServers" "HOUSE_TO" "[I")) (ty := .int) (N := 5) (f := fun j => .int (Int32.ofInt ((stL 1).getD j 0))) (A := fun q => s.heap.size ≤ q) (by decide) (hs (Cond.arrayOf (Term.static "EnoughServers" "HOUSE_TO" "[I") .int) (by decide +kernel)) (va_eqt (hs (Cond.eq (Term.length (Term.static "EnoughServers" "HOUSE_TO" "[I")) (.int (Int32.ofNat 5))) (by decide +kernel))) (fun j hj => by
    rcases (by omega : j = 0 ∨ j = 1 ∨ j = 2 ∨ j = 3 ∨ j = 4) with rfl | rfl | rfl | rfl | rfl
    · exact va_eqt (hs (Cond.eq (Term.elem (Term.static "EnoughServers" "HOUSE_TO" "[I") (.int (Int32.ofNat 0))) (.int (Int32.ofInt (60)))) (by decide +kernel))
    · exact va_eqt (hs (Cond.eq (Term.elem (Term.static "EnoughServers" "HOUSE_TO" "[I") (.int (Int32.ofNat 1))) (.int (Int32.ofInt (6)))) (by decide +kernel))
    · exact va_eqt (hs (Cond.eq (Term.elem (Term.static "EnoughServers" "HOUSE_TO" "[I") (.int (Int32.ofNat 2))) (.int (Int32.ofInt (9)))) (by decide +kernel))
    · exact va_eqt (hs (Cond.eq (Term.elem (Term.static "EnoughServers" "HOUSE_TO" "[I") (.int (Int32.ofNat 3))) (.int (Int32.ofInt (3)))) (by decide +kernel))
    · exact va_eqt (hs (Cond.eq (Term.elem (Term.static "EnoughServers" "HOUSE_TO" "[I") (.int (Int32.ofNat 4))) (.int (Int32.ofInt (6)))) (by decide +kernel))) (fun a h1 h2 => absurd h1 (Nat.not_lt.mpr h2))
  have Z1 : va_Z RX4 (stN 1) "[I" (.ref t1) (fun q => s.heap.size ≤ q) s s.heap := va_Zref (hts _ sw260) (hg _ gw1) ev1 (fun a h1 h2 => absurd h1 (Nat.not_lt.mpr h2))
  obtain ⟨t2, ev2, T2⟩ := va_Tof (args := #[Value.ref b]) (s := s) (tm := (Term.static "EnoughServers" "SERVICE_FROM" "[I")) (ty := .int) (N := 9) (f := fun j => .int (Int32.ofInt ((stL 2).getD j 0))) (A := fun q => s.heap.size ≤ q) (by decide) (hs (Cond.arrayOf (Term.static "EnoughServers" "SERVICE_FROM" "[I") .int) (by decide +kernel)) (va_eqt (hs (Cond.eq (Term.length (Term.static "EnoughServers" "SERVICE_FROM" "[I")) (.int (Int32.ofNat 9))) (by decide +kernel))) (fun j hj => by
    rcases (by omega : j = 0 ∨ j = 1 ∨ j = 2 ∨ j = 3 ∨ j = 4 ∨ j = 5 ∨ j = 6 ∨ j = 7 ∨ j = 8) with rfl | rfl | rfl | rfl | rfl | rfl | rfl | rfl | rfl
    · exact va_eqt (hs (Cond.eq (Term.elem (Term.static "EnoughServers" "SERVICE_FROM" "[I") (.int (Int32.ofNat 0))) (.int (Int32.ofInt (0)))) (by decide +kernel))
    · exact va_eqt (hs (Cond.eq (Term.elem (Term.static "EnoughServers" "SERVICE_FROM" "[I") (.int (Int32.ofNat 1))) (.int (Int32.ofInt (1)))) (by decide +kernel))
    · exact va_eqt (hs (Cond.eq (Term.elem (Term.static "EnoughServers" "SERVICE_FROM" "[I") (.int (Int32.ofNat 2))) (.int (Int32.ofInt (0)))) (by decide +kernel))
    · exact va_eqt (hs (Cond.eq (Term.elem (Term.static "EnoughServers" "SERVICE_FROM" "[I") (.int (Int32.ofNat 3))) (.int (Int32.ofInt (1)))) (by decide +kernel))
    · exact va_eqt (hs (Cond.eq (Term.elem (Term.static "EnoughServers" "SERVICE_FROM" "[I") (.int (Int32.ofNat 4))) (.int (Int32.ofInt (1)))) (by decide +kernel))
    · exact va_eqt (hs (Cond.eq (Term.elem (Term.static "EnoughServers" "SERVICE_FROM" "[I") (.int (Int32.ofNat 5))) (.int (Int32.ofInt (0)))) (by decide +kernel))
    · exact va_eqt (hs (Cond.eq (Term.elem (Term.static "EnoughServers" "SERVICE_FROM" "[I") (.int (Int32.ofNat 6))) (.int (Int32.ofInt (0)))) (by decide +kernel))
    · exact va_eqt (hs (Cond.eq (Term.elem (Term.static "EnoughServers" "SERVICE_FROM" "[I") (.int (Int32.ofNat 7))) (.int (Int32.ofInt (0)))) (by decide +kernel))
    · exact va_eqt (hs (Cond.eq (Term.elem (Term.static "EnoughServers" "SERVICE_FROM" "[I") (.int (Int32.ofNat 8))) (.int (Int32.ofInt (1)))) (by decide +kernel))) (fun a h1 h2 => absurd h1 (Nat.not_lt.mpr h2))
  have Z2 : va_Z RX4 (stN 2) "[I" (.ref t2) (fun q => s.heap.size ≤ q) s s.heap := va_Zref (hts _ sw278) (hg _ gw1) ev2 (fun a h1 h2 => absurd h1 (Nat.not_lt.mpr h2))
  obtain ⟨t3, ev3, T3⟩ := va_Tof (args := #[Value.ref b]) (s := s) (tm := (Term.static "EnoughServers" "SERVICE_TO" "[I")) (ty := .int) (N := 9) (f := fun j => .int (Int32.ofInt ((stL 3).getD j 0))) (A := fun q => s.heap.size ≤ q) (by decide) (hs (Cond.arrayOf (Term.static "EnoughServers" "SERVICE_TO" "[I") .int) (by decide +kernel)) (va_eqt (hs (Cond.eq (Term.length (Term.static "EnoughServers" "SERVICE_TO" "[I")) (.int (Int32.ofNat 9))) (by decide +kernel))) (fun j hj => by
    rcases (by omega : j = 0 ∨ j = 1 ∨ j = 2 ∨ j = 3 ∨ j = 4 ∨ j = 5 ∨ j = 6 ∨ j = 7 ∨ j = 8) with rfl | rfl | rfl | rfl | rfl | rfl | rfl | rfl | rfl
    · exact va_eqt (hs (Cond.eq (Term.elem (Term.static "EnoughServers" "SERVICE_TO" "[I") (.int (Int32.ofNat 0))) (.int (Int32.ofInt (9)))) (by decide +kernel))
    · exact va_eqt (hs (Cond.eq (Term.elem (Term.static "EnoughServers" "SERVICE_TO" "[I") (.int (Int32.ofNat 1))) (.int (Int32.ofInt (20)))) (by decide +kernel))
    · exact va_eqt (hs (Cond.eq (Term.elem (Term.static "EnoughServers" "SERVICE_TO" "[I") (.int (Int32.ofNat 2))) (.int (Int32.ofInt (9)))) (by decide +kernel))
    · exact va_eqt (hs (Cond.eq (Term.elem (Term.static "EnoughServers" "SERVICE_TO" "[I") (.int (Int32.ofNat 3))) (.int (Int32.ofInt (6)))) (by decide +kernel))
    · exact va_eqt (hs (Cond.eq (Term.elem (Term.static "EnoughServers" "SERVICE_TO" "[I") (.int (Int32.ofNat 4))) (.int (Int32.ofInt (6)))) (by decide +kernel))
    · exact va_eqt (hs (Cond.eq (Term.elem (Term.static "EnoughServers" "SERVICE_TO" "[I") (.int (Int32.ofNat 5))) (.int (Int32.ofInt (9)))) (by decide +kernel))
    · exact va_eqt (hs (Cond.eq (Term.elem (Term.static "EnoughServers" "SERVICE_TO" "[I") (.int (Int32.ofNat 6))) (.int (Int32.ofInt (99)))) (by decide +kernel))
    · exact va_eqt (hs (Cond.eq (Term.elem (Term.static "EnoughServers" "SERVICE_TO" "[I") (.int (Int32.ofNat 7))) (.int (Int32.ofInt (9)))) (by decide +kernel))
    · exact va_eqt (hs (Cond.eq (Term.elem (Term.static "EnoughServers" "SERVICE_TO" "[I") (.int (Int32.ofNat 8))) (.int (Int32.ofInt (4)))) (by decide +kernel))) (fun a h1 h2 => absurd h1 (Nat.not_lt.mpr h2))
  have Z3 : va_Z RX4 (stN 3) "[I" (.ref t3) (fun q => s.heap.size ≤ q) s s.heap := va_Zref (hts _ sw283) (hg _ gw1) ev3 (fun a h1 h2 => absurd h1 (Nat.not_lt.mpr h2))
  refine ⟨fun t => match t with | 0 => t0 | 1 => t1 | 2 => t2 | _ => t3, fun t ht => ?_⟩
  rcases (by omega : t = 0 ∨ t = 1 ∨ t = 2 ∨ t = 3) with rfl | rfl | rfl | rfl
  · exact ⟨Z0, T0⟩
  · exact ⟨Z1, T1⟩
  · exact ⟨Z2, T2⟩
  · exact ⟨Z3, T3⟩
theorem law_cw {s : State} {b : Nat} (hg : ∀ w ∈ gW, w.before #[Value.ref b] s = true) (hts : ∀ w ∈ lw_tbl, w.before #[Value.ref b] s = true) : ∃ D cT, CW D cT s := by
  obtain ⟨c0, i0, k0⟩ := u_known hg cls0.2.1 (hg _ hw51)
  obtain ⟨c1, i1, k1⟩ := u_known hg cls1.2.1 (hg _ hw65)
  obtain ⟨c2, i2, k2⟩ := u_known hg cls2.2.1 (hg _ hw58)
  obtain ⟨c3, i3, k3⟩ := u_known hg cls3.2.1 (hg _ hw19)
  obtain ⟨c4, i4, k4⟩ := u_known hg cls4.2.1 (hg _ sw11)
  obtain ⟨c5, i5, k5⟩ := u_known hg cls5.2.1 (hg _ sw546)
  have a0 : va_AO RX0 s := va_AO.of (hts _ sw197)
  have a1 : va_AO RX1 s := va_AO.of (hts _ sw64)
  have a2 : va_AO RX2 s := va_AO.of (hts _ sw57)
  obtain ⟨t0, r0⟩ := ai_class (hg _ hw49)
  obtain ⟨t1, r1⟩ := ao_class a0
  obtain ⟨t2, r2⟩ := ao_class a2
  obtain ⟨t3, r3⟩ := ao_class a1
  refine ⟨(fun k => match k with | 0 => c0 | 1 => c1 | 2 => c2 | 3 => c3 | 4 => c4 | _ => c5, fun k => match k with | 0 => i0 | 1 => i1 | 2 => i2 | 3 => i3 | 4 => i4 | _ => i5), (fun k => match k with | 0 => t0 | 1 => t1 | 2 => t2 | _ => t3), ⟨fun k q hq => ?_, fun k q hq => ?_⟩, fun q hq => ?_, a0, a1, a2⟩
  · have hk : k < 6 := (List.getElem?_eq_some_iff.mp hq).1
    rcases (by omega : k = 0 ∨ k = 1 ∨ k = 2 ∨ k = 3 ∨ k = 4 ∨ k = 5) with rfl | rfl | rfl | rfl | rfl | rfl
    · cases hq; exact k0
    · cases hq; exact k1
    · cases hq; exact k2
    · cases hq; exact k3
    · cases hq; exact k4
    · cases hq; exact k5
  · have hk : k < 4 := (List.getElem?_eq_some_iff.mp hq).1
    rcases (by omega : k = 0 ∨ k = 1 ∨ k = 2 ∨ k = 3) with rfl | rfl | rfl | rfl
    · cases hq; exact r0
    · cases hq; exact r1
    · cases hq; exact r2
    · cases hq; exact r3
  · obtain ⟨h1, h2⟩ := List.mem_filter.mp hq
    have h3 := hts q (List.mem_append_right _ h1)
    cases q <;> first | exact va_Nw.of rfl h3 | (cases h2; done)
