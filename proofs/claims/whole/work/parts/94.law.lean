/-! THE CLAIM OUT OF ONE WALK OF THE LAW'S BODY. Your part is whole_start (and what it stands on); all else here is the same for every law, but numbers. -/
def R_law : String := "EnoughServersLaw"
def lw_P (b : Addr) (xs : List Int32) (args : Array Value) (s : State) : Prop := args = #[.ref b] ∧ s.IntsAt b xs ∧ xs.length ≤ 2560 ∧ (Jvm.Cond.and given_1 narrow_1).before args s = true
def lw_Q (_ : Array Value) (s : State) (o : Outcome) (t : State) : Prop := o = .returned (some (.int 1)) ∧ Framed s o t [] 600000 7302250
def lw_Z (below : List Frame) (a : Array Value) (s : State) : State → Prop := fun t => ∃ o, t.status = .running ∧ Ended t below o ∧ lw_Q a s o t
/-- the law's own end, with 1 on the stack, nothing written that was there before, its room as the claim has it -/
theorem lw_ret {p : Program} {l : Launch} {e : Env} {s : State} {m : MethodId} {below : List Frame} {meth : Method} {c : Code} {b : Nat} (hx : p.tables.exec = Jvm.exec) (hb : c.code = code) (hr : meth.sig.returnType = ret) (hlocks : meth.locks = false) {pc : Nat} {H : Heap} {ls : Array Slot} (hdg : decode code pc = .ok (.ireturn, 1)) : W p l e room_1 s m #[Value.ref b] below meth c H [] 600000 7302250 (lw_Z below #[Value.ref b] s) (F0 m pc ls [.int 1]) := by
  intro T hT X
  obtain ⟨fs, hret, hrun, hended, hW, hframe⟩ := X.leave (v := some (.int 1)) (hlocks := hlocks) (fun h => by rw [hr] at h; cases h)
  have hmeth' : T.vm.method? m = some meth := X.method'
  refine ⟨T.setFrames fs, ?_, .returned (some (.int 1)), hrun, hended, rfl, ⟨_, rfl⟩, hW, hframe⟩
  jvm_step X.here [X.here.top, hx, hb, hdg, hmeth', hr, ret, narrow_b1]
  (try refine ⟨rfl, ?_⟩); (try refine ⟨rfl, ?_⟩)
  first | (intro acts; rw [hret _ acts rfl rfl rfl]) | rw [hret _ _ rfl rfl rfl]
  exact Steps.refl _
/-- what holds at the law's entry: the machine, the code, the tables' words (any of lw_tbl by 'hts w (by decide +kernel)'), the script of L ints xs at the cell b, what the Statement gives of the start (any of its parts by flat_of_before) -/
def lw_At (p : Program) (s : State) (m : MethodId) (meth : Method) (c : Code) (b L : Nat) (xs : Nat → Int32) : Prop :=
  p.tables.exec = Jvm.exec ∧ c.code = code ∧ meth.sig.returnType = ret ∧ c.maxLocals = 4 ∧ s.vm.findClass R_law = some m.cls ∧ (∀ w ∈ lw_tbl, w.before #[Value.ref b] s = true) ∧ va_X b L xs s s.heap ∧ b < s.heap.size ∧ meth.locks = false ∧ (Jvm.Cond.and given_1 narrow_1).before #[Value.ref b] s = true

/-- the law, from its entry to its end -/
theorem whole_start {p : Program} {e : Env} {s : State} {m : MethodId} {below : List Frame} {meth : Method} {c : Code} (l : Launch) (hflags : l.flags = flags0) {b L : Nat} {xs : Nat → Int32} (hL : L ≤ 2560) (C0 : lw_At p s m meth c b L xs) : W p l e room_1 s m #[Value.ref b] below meth c s.heap [] 0 0 (lw_Z below #[Value.ref b] s) (entryFrame m ([Value.ref b] : List Value).toArray 4) := by
  obtain ⟨hx, hb, hr, hml, hown, hts, hX, hbl, hlocks, hgv⟩ := C0
  have hg : ∀ w ∈ gW, w.before #[Value.ref b] s = true := fun w hw => hts w (List.mem_filter.mp hw).1
  obtain ⟨sv, hst⟩ := law_stt hg hts hgv
  obtain ⟨D, cT, hW⟩ := law_cw hg hts
  have hl := lv_entry ([.ref b]) (n := 4) (Nat.le_of_ble_eq_true rfl)
  rw [lg_entry_eq]
  generalize (lg_sl ([.ref b]) ++ List.replicate (4 - (lg_sl ([.ref b])).length) Slot.unset).toArray = ls at hl ⊢
  have hl : lv_has ls 4 [(0, .ref b)] := hl
  have hP : va_P D vwCl ([] ++ []) s.heap := fun k q h => by cases h
  have hD : va_D (fun q => s.heap.size ≤ q) ([] ++ []) := ⟨(fun i j p q h => by cases h), (fun k q h => by cases h)⟩
  have hS : va_S (fun q => s.heap.size ≤ q) s.heap s.heap [] := va_S.rf
  refine kidP (X := []) (pl := []) k_X4 hx hb hml hown hg hW (fun q h => h) hl.1 kdL4 hP hD hS (by decide) (Nat.le_of_ble_eq_true rfl) (Nat.le_of_ble_eq_true rfl) (Nat.le_of_ble_eq_true rfl) dL_law_0 dL_law_3 dL_law_4 (fun u0 H0 locs0 hI0 hP hD hS => ?_)
  refine lv_astore_n hx hb dL_law_7 rfl hl (by omega) rfl (fun ls hl => ?_)
  refine kidP (X := []) k_X5 hx hb hml hown hg hW (fun q h => h) hl.1 kdL5 hP hD hS (by decide) (Nat.le_of_ble_eq_true rfl) (Nat.le_of_ble_eq_true rfl) (Nat.le_of_ble_eq_true rfl) dL_law_8 dL_law_11 dL_law_12 (fun u1 H1 locs1 hI1 hP hD hS => ?_)
  refine lv_astore_n hx hb dL_law_15 rfl hl (by omega) rfl (fun ls hl => ?_)
  refine lv_iconst (v := Int32.ofInt ((5 * 0 : Nat) : Int)) hx hb dL_law_16 rfl ?_
  refine lv_istore_n hx hb dL_law_17 rfl hl (by omega) rfl (fun ls hl => ?_)
  obtain ⟨ad0, μ⟩ := u0
  obtain ⟨ad1, ν⟩ := u1
  rw [List.nil_append, List.append_nil] at hP hD
  obtain ⟨hD1, hD0, hdj⟩ := vD_split hD
  have hP1 : va_P D vwCl (wsW 1 ad1 cT ν) H1 := vP_mem.mpr (fun q hq => vP_mem.mp hP q (List.mem_append_left _ hq))
  have hP0 : va_P D vwCl (wsW 0 ad0 cT μ) H1 := vP_mem.mpr (fun q hq => vP_mem.mp hP q (List.mem_append_right _ hq))
  have hA : ∀ {w : Nat} {ad : Nat → Nat} {μ : Mem}, va_D (fun q => s.heap.size ≤ q) (wsW w ad cT μ) → AD w ad (fun q => s.heap.size ≤ q) := fun {w ad μ} h => ⟨fun i j hi hj e => h.1 i j _ _ (wsW_get hi) (wsW_get hj) e, fun k hk => h.2 k _ (wsW_get hk)⟩
  have C : LC D cT sv ad0 ad1 p s m #[Value.ref b] c := ⟨hx, hb, hml, hown, hg, hW, hA (μ := μ) hD0, hA (μ := ν) hD1, fun i j hi hj e => hdj _ (List.mem_of_getElem? (wsW_get (w := 1) (cT := cT) (μ := ν) hj)) _ (List.mem_of_getElem? (wsW_get (w := 0) (cT := cT) (μ := μ) hi)) e.symm, hst⟩
  have hrel : REL ((0 : Nat) : Int) μ ν := by
    obtain ⟨z1, z2, z3⟩ := hI0
    have y := hI1
    refine ⟨⟨?_, ?_, fun i h1 h2 => ?_, ?_⟩, ?_, Or.inl ⟨z1 6, y 1 7⟩⟩
    · rw [show ν 0 11 = 0 from y 0 11]; omega
    · rw [show ν 0 11 = 0 from y 0 11]; exact z2
    · rw [show ν 0 11 = 0 from y 0 11] at h2; omega
    · rw [show ν 0 12 = 0 from y 0 12]; exact z3
    · rw [show μ 0 4 = 0 from z1 4]; omega
  refine W.eq (g2 := F0 m 18 ls []) rfl ?_
  refine lloop (L := L) (cells := 0 + (1 + 615) + (1 + 10)) (slots := 0 + (7 + 7881) + (19 + 5392)) C hX hbl hL (by decide) (by decide) (fun H2 locs2 ls2 hS2 => ?_) L 0 μ ν H1 locs1 ls (by omega) hrel hP0 hP1 hS (by omega) hl
  refine lv_iconst (v := 1) hx hb dL_law_717 rfl ?_
  refine va_forget (fun q hq => hS2.2.2 q hq) ?_
  refine W.widen (k := 600000) (n := 7302250) (Nat.le_of_ble_eq_true rfl) (Nat.le_of_ble_eq_true rfl) ?_
  exact lw_ret hx hb hr hlocks dL_law_718
