/-! CONSTRUCTORS that make objects: one object made, and a row of them -/
section T87
variable {p : Program} {l : Launch} {e : Env} {R : Room} {s : State} {m : MethodId} {args : Array Value} {below : List Frame} {meth : Method} {c : Code} {H : Heap} {locs : List Loc} {cells slots : Nat} {Q : State → Prop}
variable {cc : ByteArray} {pc nL : Nat} {ls : Array Slot} {rest : List Value} {D : va_G} {cT : Nat → ClassId} {A : Nat → Prop} {X pl : va_W}
/-- what is known of the maker -/
def Mk (D : va_G) (cT : Nat → ClassId) (A : Nat → Prop) (p : Program) (m : MethodId) (c : Code) (cc : ByteArray) (nL : Nat) (s : State) (args : Array Value) (Y : MethodName) : Prop := p.tables.exec = Jvm.exec ∧ c.code = cc ∧ c.maxLocals = nL ∧ s.vm.findClass Y.cls = some m.cls ∧ (∀ w ∈ Cond.code Y cc nL none :: gW, w.before args s = true) ∧ CW D cT s ∧ ∀ q : Nat, s.heap.size ≤ q → A q
/-- what is known of what is made -/
def Kd (own : String) (i1 i2 : Nat) (y : MethodName) (code : ByteArray) (maxL ci N : Nat) (fs : List Value) : Prop := ∃ T ty, CLS ci y.cls T N ty ∧ (∀ j, j < N → defaultValue (ty j) = vp_V fs j) ∧ Cond.classLink own i1 y.cls ∈ gW ∧ Cond.instantiable y.cls N ∈ gW ∧ Cond.initialized y.cls ∈ gW ∧ Cond.code y code maxL none ∈ gW ∧ Cond.instanceMethod y ∈ gW ∧ y.name = "<init>" ∧ (∃ host, Cond.methodLinkNest own i2 y host ∈ nWs) ∧ (y.cls ≠ "java/lang/invoke/MethodHandle" ∧ y.cls ≠ "java/lang/invoke/VarHandle" ∧ (parseMethodDescriptor y.desc).map (fun d => d.parameters.length) = some 0)
theorem good_kid {Y y : MethodName} {cc code : ByteArray} {nL maxL : Nat} {r r' : Option FieldType} (h : Cond.code y code maxL r ∈ gW) : GoodIn (Cond.code Y cc nL r' :: gW) (Cond.code y code maxL r :: gW) := by
  intro q hq
  have hq2 : q ∈ gW := by
    rcases List.mem_cons.mp hq with rfl | h2
    · exact h
    · exact h2
  exact ⟨List.mem_cons_of_mem _ hq2, good_of_word (gW_good q hq2)⟩
theorem KC.blind {h0 s0 ci : Nat} {fs : List Value} : FrameBlind (va_Pc [.ref h0] (fun U => U.heap.size = s0 ∧ va_P D vwCl [(h0, .inr (ci, fs))] U.heap ∧ CW D cT U)) := by
  intro a U g mk q
  obtain ⟨q0, q1, qP, qW⟩ := q
  exact ⟨q0, q1, qP, CW.same (U := U) rfl qW⟩
theorem kidN {Y y : MethodName} {code : ByteArray} {maxL d ci sz mc ms N i1 i2 : Nat} {fs : List Value} {ly : Nat → Nat} {I : Mem → Prop} (hk : KC y code maxL d ci fs ly sz mc ms I) (hM : Mk D cT A p m c cc nL s args Y) (hl : ls.size = nL) (hd : Kd Y.cls i1 i2 y code maxL ci N fs)
    (hP : va_P D vwCl (X ++ pl) H) (hD : va_D A (X ++ pl)) (hS : va_S A s.heap H locs) (hR : d + 1 ≤ R.frames ∧ 8 + (maxL + 11) + 40 * d ≤ R.locals) (hcells : cells + (1 + mc) ≤ R.cells) (hslots : slots + (N + ms) ≤ R.slots) (hr8 : 1 + (rest.map fun v => v.category).sum ≤ 8)
    (d1 : decode cc pc = .ok (.new i1, 3)) (d2 : decode cc (pc + 3) = .ok (.dup, 1)) (d3 : decode cc (pc + 4) = .ok (.invokespecial i2, 3))
    (kk : ∀ (u : (Nat → Nat) × Mem) (H1 : Heap) (locs1 : List Loc), I u.2 → va_P D vwCl (X ++ (blkL ly sz u.1 cT u.2 ++ pl)) H1 → va_D A (X ++ (blkL ly sz u.1 cT u.2 ++ pl)) → va_S A s.heap H1 locs1 → W p l e R s m args below meth c H1 locs1 (cells + (1 + mc)) (slots + (N + ms)) Q (F0 m (pc + 7) ls (.ref (u.1 0) :: rest))) : W p l e R s m args below meth c H locs cells slots Q (F0 m pc ls rest) := by
  obtain ⟨hx, hb, hml, hown, hts, hW, hA⟩ := hM
  obtain ⟨T, ty, hC, hfs, w1, w2, w3, w4, w5, hnm, ⟨host, w6⟩, hdesc⟩ := hd
  have hg : ∀ q ∈ gW, q.before args s = true := fun q hq => hts q (List.mem_cons_of_mem _ hq)
  refine va_new hx hb hts (fun q hq => List.mem_cons_of_mem _ (hC.2.1 q hq)) ty hC.2.2.1 hown (hg _ w1) (hg _ w2) (hg _ w3) hW.1 hP hD hS hA hC.1 hfs (by omega) (by omega) d1 (fun q H2 hP2 hD2 hS2 => ?_)
  refine lv_dup hx hb d2 rfl ?_
  have cw := va_cnB (R := R) (host := host) (rm := rmC d mc ms) (mc := mc) (ms := ms) 0 hts (good_kid w4) rfl rfl rfl (hW.2.1 _ w6) (hg _ w3) hdesc hR
  have hpre : ∀ U : State, U.heap = H2 → s.WarmedH U.vm → va_Pc [.ref q] (fun U => U.heap.size = H2.size ∧ va_P D vwCl [(q, .inr (ci, fs))] U.heap ∧ CW D cT U) [Value.ref q].toArray U := by
    intro U hU hWm
    refine ⟨rfl, by rw [hU], ?_, hW.warm hWm⟩
    rw [hU]
    rw [vP_mem] at hP2 ⊢
    exact fun x hx => hP2 x (List.mem_append_right _ hx)
  have hfree : ∀ x, va_A [(q, (.inr (ci, fs) : va_E))] H2.size x → A x := by
    intro x hx
    rcases hx with ⟨k, ee, h⟩ | h
    · have hm : (x, ee) ∈ X ++ pl ++ [(q, (.inr (ci, fs) : va_E))] := List.mem_append_right _ (List.mem_of_getElem? h)
      obtain ⟨j, hj⟩ := List.getElem?_of_mem hm
      exact hD2.2 j _ hj
    · exact hA x (Nat.le_trans hS2.1 h)
  refine va_callv (va_runIN (As := []) (rest := .ref q :: rest) (b := q) ⟨hx, hb, hml, hown, hts⟩ (hk l D cT q H2.size) ⟨cw, hnm, hg _ w5⟩ ⟨KC.blind, hpre⟩ rfl rfl hl rfl (lv_room (by rw [List.map_cons, List.sum_cons]; exact hr8)) d3 (by constructor <;> (show _ ≤ _) <;> omega)) hS2 (fun x _ h => hfree x h) hfree (fun u t H3 locs3 ht hal hpost hB hsz3 hk3 hS3 => ?_)
  subst ht
  obtain ⟨h0, hI⟩ := hpost
  obtain ⟨j1, j2⟩ := vjoin hP2 hD2 hk3 hfree hB.1 hB.2
  rw [← h0]
  refine W.eq (g2 := F0 m (pc + 7) ls (.ref (u.1 0) :: rest)) rfl ?_
  rw [Nat.add_assoc cells, Nat.add_assoc slots]
  exact kk u t.heap locs3 hI j1 j2 hS3
end T87
