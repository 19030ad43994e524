/-! THE LAW: its calls. A call of the class and a call of the model, taken together: the end of an invocation is one (the_end_unique), so a family of contracts is one contract. -/
theorem Met.fam {ι : Type} (i0 : ι) {l : Launch} {y : MethodName} {ws : List Cond} {rm : Room} {Pc : Array Value → State → Prop} {Qc : ι → Array Value → State → Outcome → State → Prop} {mc ms : Nat} {free : Addr → Prop} (h : ∀ i, Met l y ws rm Pc (Qc i) mc ms free) : Met l y ws rm Pc (fun a st o t => ∀ i, Qc i a st o t) mc ms free := by
  intro p e ha hc hk s m args below hf happ hP hK
  obtain ⟨n, o, hw, hr, he, hq, hF⟩ := h i0 p e ha hc hk s m args below hf happ hP hK
  refine ⟨n, o, hw, hr, he, fun i => ?_, hF⟩
  obtain ⟨n', o', hw', hr', he', hq', -⟩ := h i p e ha hc hk s m args below hf happ hP hK
  obtain ⟨rfl, rfl⟩ := the_end_unique (f := fun k => stepsAlone p.tables e k s) hw he hw' he'
  exact hq'
def LC (D : va_G) (cT : Nat → ClassId) (sv ad0 ad1 : Nat → Nat) (p : Program) (s : State) (m : MethodId) (args : Array Value) (c : Code) : Prop :=
  p.tables.exec = Jvm.exec ∧ c.code = cL_law ∧ c.maxLocals = 4 ∧ s.vm.findClass RL = some m.cls ∧ (∀ w ∈ gW, w.before args s = true) ∧ CW D cT s ∧ AD 0 ad0 (fun q => s.heap.size ≤ q) ∧ AD 1 ad1 (fun q => s.heap.size ≤ q) ∧ (∀ i j, i < siz 0 → j < siz 1 → ad0 i ≠ ad1 j) ∧ Stt sv (fun q => s.heap.size ≤ q) s s.heap
section T91
variable {p : Program} {l : Launch} {e : Env} {s : State} {m : MethodId} {args : Array Value} {below : List Frame} {meth : Method} {c : Code} {H : Heap} {locs : List Loc} {cells slots : Nat} {Q : State → Prop}
variable {pc : Nat} {ls : Array Slot} {rest : List Value} {D : va_G} {cT : Nat → ClassId} {sv ad ad0 ad1 : Nat → Nat} {μ ν : Mem} {as : List PV}
theorem lrun {M : MD} {w ci na index N : Nat} {T : u_T} {ty0 : Nat → FieldType} {Qx : Array Value → State → Outcome → State → Prop} (hx : p.tables.exec = Jvm.exec) (hb : c.code = cL_law) (hml : c.maxLocals = 4) (hown : s.vm.findClass RL = some m.cls) (hts : ∀ w ∈ gW, w.before args s = true) (hW : CW D cT s) (hAD : AD w ad (fun q => s.heap.size ≤ q)) (hst : Stt sv (fun q => s.heap.size ≤ q) s s.heap)
    (hP : va_P D vwCl (wsW w ad cT μ) H) (hS : va_S (fun q => s.heap.size ≤ q) s.heap H locs) (hM : Met l M.2.2.1 (mCode M :: gW) (rmL M.2.1) (PreW w ad sv D cT H.size ((100 + ci, 0) :: as) μ) Qx 0 0 (AA w ad H.size)) (hC : CLS ci M.2.2.1.cls T N ty0) (hlay : lay w 0 = ci) (hsz : 0 < siz w) (hk : MK M na) (hi : Cond.instanceMethod M.2.2.1 ∈ gW) (hse : Cond.selects M.2.2.1.cls M.2.2.1 M.2.2.1 ∈ gW) (hl : Cond.methodLink RL index M.2.2.1 ∈ gW)
    (hlen : as.length = na) (hR : M.2.1 ≤ 9) (hls : ls.size = 4) (hr8 : (rest.map fun v => v.category).sum ≤ 8) (hcells : cells ≤ 600000) (hslots : slots ≤ 7302250) (hd : decode cL_law pc = .ok (.invokevirtual index, 3)) : va_Run p l e room_1 s m args below meth c H locs cells slots 0 0 (F0 m pc ls ((as.map (cv ad sv)).reverse ++ .ref (ad 0) :: rest)) rest (Qx (.ref (ad 0) :: as.map (cv ad sv)).toArray) (AA w ad H.size) := by
  have hget := wsW_get (w := w) (ad := ad) (cT := cT) (μ := μ) hsz
  rw [cellE_obj hlay hC.2.2.2.2] at hget
  have hrecv := va_recv hW.1 hP hC.1 hget
  have hfr : ∀ q, AA w ad H.size q → s.heap.size ≤ q := by
    intro q hq
    rcases hq with ⟨k, hk, rfl⟩ | hq
    · exact hAD.2 k hk
    · exact Nat.le_trans hS.1 hq
  have hpre : ∀ U : State, U.heap = H → s.WarmedH U.vm → PreW w ad sv D cT H.size ((100 + ci, 0) :: as) μ (.ref (ad 0) :: as.map (cv ad sv)).toArray U := by
    intro U hU hWm
    refine ⟨?_, by rw [hU], by rw [hU]; exact hP, va_K.moved hWm.alike hW.1, ⟨hAD.1, fun _ _ => trivial⟩, hW.2.1.warm hWm, ?_⟩
    · rw [List.map_cons, cv_ref ad sv (by omega : 100 ≤ 100 + ci)]
      rfl
    · rw [hU]
      exact Stt.moved hWm.alike ((hst.kept (fun a h1 h2 => hS.2.1 a h1 h2)).narrow hfr)
  have hroom : (rmL M.2.1).frames + 1 ≤ room_1.frames ∧ 8 + (M.2.2.2.2.1 + 11) + (rmL M.2.1).locals ≤ room_1.locals := by
    have h4 := hk.2.2.2
    constructor
    · show M.2.1 + 1 ≤ 11
      omega
    · show 8 + (M.2.2.2.2.1 + 11) + 40 * M.2.1 ≤ 464
      omega
  have hG : GoodIn gW (mCode M :: gW) := by
    intro q hq
    have hq2 : q ∈ gW := by
      rcases List.mem_cons.mp hq with rfl | h2
      · exact hk.1
      · exact h2
    exact ⟨hq2, good_of_word (gW_good q hq2)⟩
  have cw := callB_of (R := room_1) (rm := rmL M.2.1) (mc := 0) (ms := 0) na hts hG rfl rfl rfl (hts _ hk.2.1) (hts _ hl) hk.2.2.1 hroom
  exact va_runV (As := as.map (cv ad sv)) (rest := rest) ⟨hx, hb, hml, hown, hts⟩ hM ⟨cw, hts _ hi, hts _ hse⟩ ⟨PreW.blind, hrecv, hpre⟩ rfl (by rw [List.length_map]; exact hlen) hls rfl (lv_room hr8) hd ⟨hcells, hslots⟩
/-- what a run's contract says can be had without making the run -/
theorem pick {g g0 : JFrame} {w : Nat} {rt : Option FieldType} {P : PV → Mem → Prop} {sz : Nat} {a : Array Value} {free : Addr → Prop} (hr : va_Run p l e room_1 s m args below meth c H locs cells slots 0 0 g rest (PostW w ad sv D cT sz rt P a) free) (kk : ∀ r μ', P r μ' → W p l e room_1 s m args below meth c H locs cells slots Q g0) : W p l e room_1 s m args below meth c H locs cells slots Q g0 := by
  intro T hT X
  obtain ⟨v, st₀, t, T', L, h0, X', hL, e1, e2, ⟨⟨r, μ', hv, htk, hvk, hp, hb⟩, -⟩, st⟩ := hr T hT X
  exact kk r μ' hp T hT X
/-- what a method of the law's step needs -/
def LM (M : MD) (w ci na index : Nat) : Prop := M.1 = w ∧ M.2.2.2.2.2 = some .int ∧ MK M na ∧ Cond.instanceMethod M.2.2.1 ∈ gW ∧ Cond.selects M.2.2.1.cls M.2.2.1 M.2.2.1 ∈ gW ∧ Cond.methodLink RL index M.2.2.1 ∈ gW ∧ M.2.1 ≤ 9 ∧ ∃ T N ty0, CLS ci M.2.2.1.cls T N ty0
theorem vok0 {w ci : Nat} (hsz : 0 < siz w) (hlay : lay w 0 = ci) (hint : ∀ v ∈ as, v.1 = 0) : ∀ v ∈ ((100 + ci, 0) :: as : List PV), VOK w v := by
  intro v hv
  rcases List.mem_cons.mp hv with rfl | h
  · intro _
    exact ⟨Int.le_refl _, hsz, by show lay w 0 = 100 + ci - 100; omega⟩
  · intro h1
    rw [hint v h] at h1
    omega
theorem law_model {M : MD} {na index : Nat} {P : PV → Mem → Prop} (C : LC D cT sv ad0 ad1 p s m args c) (hm : LM M 1 5 na index) (hag : MetP M ((105, 0) :: as) ν P) (hint : ∀ v ∈ as, v.1 = 0) (hlen : as.length = na) (hP1 : va_P D vwCl (wsW 1 ad1 cT ν) H) (hS : va_S (fun q => s.heap.size ≤ q) s.heap H locs) (hls : ls.size = 4) (hcells : cells ≤ 600000) (hslots : slots ≤ 7302250) (hr8 : (rest.map fun v => v.category).sum ≤ 8) (hd : decode cL_law pc = .ok (.invokevirtual index, 3)) : va_Run p l e room_1 s m args below meth c H locs cells slots 0 0 (F0 m pc ls ((as.map (cv ad1 sv)).reverse ++ .ref (ad1 0) :: rest)) rest (PostW 1 ad1 sv D cT H.size (some .int) P (.ref (ad1 0) :: as.map (cv ad1 sv)).toArray) (AA 1 ad1 H.size) := by
  obtain ⟨hx, hb, hml, hown, hts, hW, h0, h1, hdj, hst⟩ := C
  obtain ⟨e1, e2, hk, hi, hse, hl, hR, T, N, ty0, hC⟩ := hm
  have hM := hag (by rw [e1]; exact vok0 (w := 1) (ci := 5) (by decide) rfl hint) l ad1 sv D cT H.size
  rw [e1, e2] at hM
  exact lrun (Qx := PostW 1 ad1 sv D cT H.size (some .int) P) hx hb hml hown hts hW h1 hst hP1 hS hM hC rfl (by decide) hk hi hse hl hlen hR hls hr8 hcells hslots hd
/-- the class's call: what it does agrees with all that the model may do -/
theorem law_class {M M5 : MD} {na index index5 pc5 : Nat} {G : PV → Mem → PV → Mem → Prop} (C : LC D cT sv ad0 ad1 p s m args c) (hm : LM M 0 4 na index) (hm5 : LM M5 1 5 na index5) (hag : MetP M5 ((105, 0) :: as) ν (fun b ν' => MetP M ((104, 0) :: as) μ (fun a μ' => G b ν' a μ'))) (hint : ∀ v ∈ as, v.1 = 0) (hlen : as.length = na) (hP0 : va_P D vwCl (wsW 0 ad0 cT μ) H) (hP1 : va_P D vwCl (wsW 1 ad1 cT ν) H) (hS : va_S (fun q => s.heap.size ≤ q) s.heap H locs) (hls : ls.size = 4) (hcells : cells ≤ 600000) (hslots : slots ≤ 7302250) (hr8 : (rest.map fun v => v.category).sum ≤ 8) (hd : decode cL_law pc = .ok (.invokevirtual index, 3)) (hd5 : decode cL_law pc5 = .ok (.invokevirtual index5, 3))
    (kk : ∀ (x : Int32) (H1 : Heap) (locs1 : List Loc), (∀ b ν', MetP M ((104, 0) :: as) μ (fun a μ' => G b ν' a μ') → ∃ (a : Int) (μ' : Mem), Int32.ofInt a = x ∧ G b ν' (0, a) μ' ∧ va_P D vwCl (wsW 0 ad0 cT μ') H1) → va_P D vwCl (wsW 1 ad1 cT ν) H1 → va_S (fun q => s.heap.size ≤ q) s.heap H1 locs1 → W p l e room_1 s m args below meth c H1 locs1 cells slots Q (F0 m (pc + 3) ls (.int x :: rest))) : W p l e room_1 s m args below meth c H locs cells slots Q (F0 m pc ls ((as.map (cv ad0 sv)).reverse ++ .ref (ad0 0) :: rest)) := by
  refine pick (law_model (rest := []) (ls := ls) C hm5 hag hint hlen hP1 hS hls hcells hslots (by decide) hd5) (fun b0 ν0 h0 => ?_)
  obtain ⟨hx, hb, hml, hown, hts, hW, hA0, hA1, hdj, hst⟩ := C
  obtain ⟨e1, e2, hk, hi, hse, hl, hR, T, N, ty0, hC⟩ := hm
  have hM := Met.fam (ι := {q : PV × Mem // MetP M ((104, 0) :: as) μ (fun a μ' => G q.1 q.2 a μ')}) ⟨(b0, ν0), h0⟩ (fun i => i.2 (by rw [e1]; exact vok0 (w := 0) (ci := 4) (by decide) rfl hint) l ad0 sv D cT H.size)
  simp only [e1, e2] at hM
  have hrun := lrun (rest := rest) (p := p) (e := e) (m := m) (c := c) (args := args) (below := below) (meth := meth) (ls := ls) (cells := cells) (slots := slots) hx hb hml hown hts hW hA0 hst hP0 hS hM hC rfl (by decide) hk hi hse hl hlen hR hls hr8 hcells hslots hd
  intro T hT X
  obtain ⟨v, st₀, t, T', L, g0, X', hL, f1, f2, hpost, st⟩ := hrun T hT X
  have hfr : ∀ q, AA 0 ad0 H.size q → s.heap.size ≤ q := by
    intro q hq
    rcases hq with ⟨k, hk, rfl⟩ | hq
    · exact hA0.2 k hk
    · exact Nat.le_trans hS.1 hq
  obtain ⟨⟨r, μ1, hv, htk, -, -, -⟩, hz, hkp⟩ := hpost ⟨(b0, ν0), h0⟩
  rw [g0] at hz hkp
  obtain ⟨a, rfl⟩ : ∃ a : Int, r = (0, a) := ⟨r.2, by
    have : r.1 = 0 := htk
    rw [← this]⟩
  cases hv
  have hall : ∀ b ν', MetP M ((104, 0) :: as) μ (fun a μ' => G b ν' a μ') → ∃ (a2 : Int) (μ' : Mem), Int32.ofInt a2 = Int32.ofInt a ∧ G b ν' (0, a2) μ' ∧ va_P D vwCl (wsW 0 ad0 cT μ') T'.heap := by
    intro b ν' h
    obtain ⟨⟨r2, μ2, hv2, htk2, -, hp2, hb2⟩, -⟩ := hpost ⟨(b, ν'), h⟩
    obtain ⟨a2, rfl⟩ : ∃ a : Int, r2 = (0, a) := ⟨r2.2, by
      have : r2.1 = 0 := htk2
      rw [← this]⟩
    refine ⟨a2, μ2, ?_, hp2, by rw [f1]; exact hb2⟩
    have h3 : (Value.int (Int32.ofInt a)) = .int (Int32.ofInt a2) := by
      have := Outcome.returned.inj hv2
      exact Option.some.inj this
    exact (Value.int.inj h3).symm
  have hP1' : va_P D vwCl (wsW 1 ad1 cT ν) T'.heap := hP1.kept (fun k q hq => by
    obtain ⟨hk1, rfl⟩ := wsW_of hq
    rw [f1]
    refine hkp _ ((hP1 k _ hq).lt) (fun h => ?_)
    rcases h with ⟨j, hj, he⟩ | h
    · exact hdj j k hj hk1 he.symm
    · exact absurd ((hP1 k _ hq).lt) (Nat.not_lt.mpr h))
  obtain ⟨t2, a1, b1⟩ := kk (Int32.ofInt a) T'.heap (locs ++ L) hall hP1'
    ⟨Nat.le_trans hS.1 (by rw [f1]; exact hz), fun q h1 h2 => by rw [f1, hkp q (Nat.lt_of_lt_of_le h1 hS.1) (fun z => h2 (hfr q z))]; exact hS.2.1 q h1 h2, fun q hq => by
      rcases List.mem_append.mp hq with h | h
      · exact hS.2.2 q h
      · exact hfr _ (hL q h)⟩ T' rfl X'
  exact ⟨t2, st t2 a1, b1⟩
/-- the model's call -/
theorem law_model_go {M : MD} {na index : Nat} {P : PV → Mem → Prop} (C : LC D cT sv ad0 ad1 p s m args c) (hm : LM M 1 5 na index) (hag : MetP M ((105, 0) :: as) ν P) (hint : ∀ v ∈ as, v.1 = 0) (hlen : as.length = na) (hP1 : va_P D vwCl (wsW 1 ad1 cT ν) H) (hS : va_S (fun q => s.heap.size ≤ q) s.heap H locs) (hls : ls.size = 4) (hcells : cells ≤ 600000) (hslots : slots ≤ 7302250) (hr8 : (rest.map fun v => v.category).sum ≤ 8) (hd : decode cL_law pc = .ok (.invokevirtual index, 3))
    (kk : ∀ (b : Int) (ν' : Mem) (H1 : Heap) (locs1 : List Loc), P (0, b) ν' → va_P D vwCl (wsW 1 ad1 cT ν') H1 → (∀ μ', va_P D vwCl (wsW 0 ad0 cT μ') H → va_P D vwCl (wsW 0 ad0 cT μ') H1) → va_S (fun q => s.heap.size ≤ q) s.heap H1 locs1 → W p l e room_1 s m args below meth c H1 locs1 cells slots Q (F0 m (pc + 3) ls (.int (Int32.ofInt b) :: rest))) : W p l e room_1 s m args below meth c H locs cells slots Q (F0 m pc ls ((as.map (cv ad1 sv)).reverse ++ .ref (ad1 0) :: rest)) := by
  have hrun := law_model (rest := rest) (ls := ls) (l := l) (e := e) (below := below) (meth := meth) C hm hag hint hlen hP1 hS hls hcells hslots hr8 hd
  obtain ⟨hx, hb, hml, hown, hts, hW, hA0, hA1, hdj, hst⟩ := C
  intro T hT X
  obtain ⟨v, st₀, t, T', L, g0, X', hL, f1, f2, hpost, st⟩ := hrun T hT X
  have hfr : ∀ q, AA 1 ad1 H.size q → s.heap.size ≤ q := by
    intro q hq
    rcases hq with ⟨k, hk, rfl⟩ | hq
    · exact hA1.2 k hk
    · exact Nat.le_trans hS.1 hq
  obtain ⟨⟨r, ν', hv, htk, -, hp, hb'⟩, hz, hkp⟩ := hpost
  rw [g0] at hz hkp
  obtain ⟨a, rfl⟩ : ∃ a : Int, r = (0, a) := ⟨r.2, by
    have : r.1 = 0 := htk
    rw [← this]⟩
  cases hv
  have hP0' : ∀ μ', va_P D vwCl (wsW 0 ad0 cT μ') H → va_P D vwCl (wsW 0 ad0 cT μ') T'.heap := fun μ' hP0 => hP0.kept (fun k q hq => by
    obtain ⟨hk1, rfl⟩ := wsW_of hq
    rw [f1]
    refine hkp _ ((hP0 k _ hq).lt) (fun h => ?_)
    rcases h with ⟨j, hj, he⟩ | h
    · exact hdj k j hk1 hj he
    · exact absurd ((hP0 k _ hq).lt) (Nat.not_lt.mpr h))
  obtain ⟨t2, a1, b1⟩ := kk a ν' T'.heap (locs ++ L) hp (by rw [f1]; exact hb') hP0'
    ⟨Nat.le_trans hS.1 (by rw [f1]; exact hz), fun q h1 h2 => by rw [f1, hkp q (Nat.lt_of_lt_of_le h1 hS.1) (fun z => h2 (hfr q z))]; exact hS.2.1 q h1 h2, fun q hq => by
      rcases List.mem_append.mp hq with h | h
      · exact hS.2.2 q h
      · exact hfr _ (hL q h)⟩ T' rfl X'
  exact ⟨t2, st t2 a1, b1⟩
end T91
