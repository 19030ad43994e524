/-! THE LOGIC: a method's body as a table of predicate transformers (PI), one an instruction; sound over the machine, proved once for each kind of instruction -/
def gW : List Cond := lw_tbl.filter goodWord
theorem gW_good : ∀ q ∈ gW, goodWord q = true := fun _ h => (List.mem_filter.mp h).2
def isNest : Cond → Bool
  | .fieldLinkNest _ _ _ _ _ _ => true
  | .methodLinkNest _ _ _ _ => true
  | _ => false
def nWs : List Cond := tables_1.filter isNest
def NW (U : State) : Prop := ∀ q ∈ nWs, va_Nw q U
theorem NW.warm {s U : State} (hW : s.WarmedH U.vm) (h : NW s) : NW U := by
  intro q hq
  have h1 := (List.mem_filter.mp hq).2
  have h2 := h q hq
  cases q <;> first | exact va_Nw.warmF hW h2 | exact va_Nw.warmM hW h2 | (cases h1; done)
theorem NW.same {u U : State} (hv : u.vm = U.vm) (h : NW u) : NW U := by
  intro q hq
  have h1 := (List.mem_filter.mp hq).2
  have h2 := h q hq
  cases q <;> first | exact va_Nw.same rfl hv h2 | (cases h1; done)
theorem NW.use {U : State} {args : Array Value} (h : NW U) {q : Cond} (hq : q ∈ nWs) : q.before args U = true := by
  have h1 := (List.mem_filter.mp hq).2
  have h2 := h q hq
  cases q <;> first | exact va_Nw.use rfl h2 | (cases h1; done)
def stN (t : Nat) : String := match t with
  | 0 => "HOUSE_FROM" | 1 => "HOUSE_TO" | 2 => "SERVICE_FROM" | _ => "SERVICE_TO"
def stL (t : Nat) : List Int := match t with
  | 0 => [1, 1, 0, 0, 2] | 1 => [60, 6, 9, 3, 6] | 2 => [0, 1, 0, 1, 1, 0, 0, 0, 1] | _ => [9, 20, 9, 6, 6, 9, 99, 9, 4]
def stV (t : Nat) (j : Int) : Int := (stL t).getD j.toNat 0
def Stt (sv : Nat → Nat) (A : Nat → Prop) (U : State) (H : Heap) : Prop := ∀ t, t < 4 → va_Z RX4 (stN t) "[I" (.ref (sv t)) A U H ∧ va_T .int (sv t) (stL t).length (fun j => .int (Int32.ofInt ((stL t).getD j 0))) A U H
theorem Stt.moved {sv : Nat → Nat} {A : Nat → Prop} {u U : State} {H : Heap} (hvm : u.vm.Alike U.vm) (h : Stt sv A u H) : Stt sv A U H := fun t ht => ⟨(h t ht).1.moved hvm, (h t ht).2.moved hvm⟩
theorem Stt.kept {sv : Nat → Nat} {A : Nat → Prop} {U : State} {H H1 : Heap} (h : Stt sv A U H) (hq : ∀ a : Nat, a < H.size → ¬ A a → H1[a]? = H[a]?) : Stt sv A U H1 := fun t ht => ⟨(h t ht).1.kept hq, (h t ht).2.kept hq⟩
theorem Stt.narrow {sv : Nat → Nat} {A B : Nat → Prop} {U : State} {H : Heap} (h : Stt sv A U H) (hq : ∀ q, B q → A q) : Stt sv B U H := fun t ht => ⟨(h t ht).1.narrow hq, (h t ht).2.narrow hq⟩
/-- a method: its world, its level (how many calls it may go down), name, bytes, locals, answer -/
abbrev MD : Type := Nat × Nat × MethodName × ByteArray × Nat × Option FieldType
def rmL (d : Nat) : Room := { frames := d, cells := 0, slots := 0, locals := 40 * d }
def mCode (M : MD) : Cond := Cond.code M.2.2.1 M.2.2.2.1 M.2.2.2.2.1 M.2.2.2.2.2
def TOK (rt : Option FieldType) (r : PV) : Prop := match rt with
  | none => r.1 = 9
  | some .int => r.1 = 0
  | some .boolean => r.1 = 0
  | some _ => 100 ≤ r.1
def rv (ad sv : Nat → Nat) (r : PV) : Option Value := if r.1 = 9 then none else some (cv ad sv r)
def PreW (w : Nat) (ad sv : Nat → Nat) (D : va_G) (cT : Nat → ClassId) (sz : Nat) (as : List PV) (μ : Mem) : Array Value → State → Prop :=
  va_Pc (as.map (cv ad sv)) (fun U => U.heap.size = sz ∧ va_P D vwCl (wsW w ad cT μ) U.heap ∧ va_K D vwCl (tysW cT) U ∧ AD w ad (fun _ => True) ∧ NW U ∧ Stt sv (AA w ad sz) U U.heap)
def PostW (w : Nat) (ad sv : Nat → Nat) (D : va_G) (cT : Nat → ClassId) (sz : Nat) (rt : Option FieldType) (P : PV → Mem → Prop) : Array Value → State → Outcome → State → Prop :=
  fun _ st oc t => (∃ (r : PV) (μ' : Mem), oc = .returned (rv ad sv r) ∧ TOK rt r ∧ VOK w r ∧ P r μ' ∧ va_P D vwCl (wsW w ad cT μ') t.heap) ∧ va_F (AA w ad sz) st t
/-- a method's contract -/
def MetP (M : MD) (as : List PV) (μ : Mem) (P : PV → Mem → Prop) : Prop :=
  (∀ v ∈ as, VOK M.1 v) → ∀ (l : Launch) (ad sv : Nat → Nat) (D : va_G) (cT : Nat → ClassId) (sz : Nat), Met l M.2.2.1 (mCode M :: gW) (rmL M.2.1) (PreW M.1 ad sv D cT sz as μ) (PostW M.1 ad sv D cT sz M.2.2.2.2.2 P) 0 0 (AA M.1 ad sz)
def LH (ad sv : Nat → Nat) (la : Array Slot) (mL : Nat) (ls : List PV) : Prop := la.size = mL ∧ lv_wf la ∧ ls.length = mL ∧ ∀ (i : Nat) (v : PV), ls[i]? = some v → v.1 ≠ 9 → v.1 ≠ 1 → la[i]? = some (.val (cv ad sv v))
def Cx (M : MD) (ad sv : Nat → Nat) (D : va_G) (cT : Nat → ClassId) (p : Program) (s : State) (m : MethodId) (args : Array Value) (meth : Method) (c : Code) : Prop :=
  p.tables.exec = Jvm.exec ∧ c.code = M.2.2.2.1 ∧ c.maxLocals = M.2.2.2.2.1 ∧ meth.sig.returnType = M.2.2.2.2.2 ∧ meth.locks = false ∧ s.vm.findClass M.2.2.1.cls = some m.cls ∧ (∀ q ∈ mCode M :: gW, q.before args s = true) ∧ NW s ∧ va_K D vwCl (tysW cT) s ∧ AD M.1 ad (AA M.1 ad s.heap.size) ∧ Stt sv (AA M.1 ad s.heap.size) s s.heap
/-- from here the method comes to its end with P -/
def OkE (M : MD) (pc : Nat) (ls st : List PV) (μ : Mem) (P : PV → Mem → Prop) : Prop :=
  ∀ (l : Launch) (ad sv : Nat → Nat) (D : va_G) (cT : Nat → ClassId) (p : Program) (e : Env) (s : State) (m : MethodId) (args : Array Value) (below : List Frame) (meth : Method) (c : Code), Cx M ad sv D cT p s m args meth c →
  ∀ (H : Heap) (locs : List Loc) (la : Array Slot), va_P D vwCl (wsW M.1 ad cT μ) H → va_S (AA M.1 ad s.heap.size) s.heap H locs → LH ad sv la M.2.2.2.2.1 ls → (∀ v ∈ ls, VOK M.1 v) → (∀ v ∈ st, VOK M.1 v) →
  W p l e (rmL M.2.1) s m args below meth c H locs 0 0 (MQ below (PostW M.1 ad sv D cT s.heap.size M.2.2.2.2.2 P) args s 0 0 (AA M.1 ad s.heap.size)) (F0 m pc la (st.map (cv ad sv)))
abbrev K0 : Type := Nat → List PV → List PV → Mem → Prop
abbrev PI : Type := (PV → Mem → Prop) → List PV → List PV → Mem → K0 → Prop
def Sound (M : MD) (pc : Nat) (f : PI) : Prop := ∀ (Q : PV → Mem → Prop) (ls st : List PV) (μ : Mem) (K : K0), (∀ pc' ls' st' μ', K pc' ls' st' μ' → OkE M pc' ls' st' μ' Q) → f Q ls st μ K → OkE M pc ls st μ Q
def iJ : PI := fun _ _ _ _ _ => False
theorem s_J (M : MD) (pc : Nat) : Sound M pc iJ := fun _ _ _ _ _ _ h => h.elim
/-- a table: a tree over the program counter -/
def nd (k : Nat) (a b : Nat → PI) : Nat → PI := fun pc => match Nat.blt pc k with
  | true => a pc
  | false => b pc
def lf (k : Nat) (f : PI) : Nat → PI := fun pc => match Nat.beq pc k with
  | true => f
  | false => iJ
def memN : List Nat → Nat → Bool
  | [], _ => false
  | x :: xs, n => match Nat.beq x n with
    | true => true
    | false => memN xs n
/-- the symbolic run: to the stops, or till the fuel is out -/
def Sym (tb : Nat → PI) (stops : List Nat) (Q : PV → Mem → Prop) (E : K0) : Nat → K0
  | 0, pc, ls, st, μ => E pc ls st μ
  | n + 1, pc, ls, st, μ => tb pc Q ls st μ (fun pc' ls' st' μ' => match memN stops pc' with
    | true => E pc' ls' st' μ'
    | false => Sym tb stops Q E n pc' ls' st' μ')
def SndF (M : MD) (tb : Nat → PI) : Prop := ∀ pc, Sound M pc (tb pc)
theorem sf_nd {M : MD} {k : Nat} {a b : Nat → PI} (ha : SndF M a) (hb : SndF M b) : SndF M (nd k a b) := by
  intro pc
  show Sound M pc (match Nat.blt pc k with | true => a pc | false => b pc)
  cases Nat.blt pc k with
  | true => exact ha pc
  | false => exact hb pc
theorem sf_lf {M : MD} {k : Nat} {f : PI} (h : Sound M k f) : SndF M (lf k f) := by
  intro pc
  show Sound M pc (match Nat.beq pc k with | true => f | false => iJ)
  cases hb : Nat.beq pc k with
  | true => rw [Nat.eq_of_beq_eq_true hb]; exact h
  | false => exact s_J M pc
theorem Sym.ok {M : MD} {tb : Nat → PI} (hs : SndF M tb) {stops : List Nat} {Q : PV → Mem → Prop} : ∀ (n pc : Nat) (ls st : List PV) (μ : Mem), Sym tb stops Q (fun pc ls st μ => OkE M pc ls st μ Q) n pc ls st μ → OkE M pc ls st μ Q
  | 0, pc, ls, st, μ, h => h
  | n + 1, pc, ls, st, μ, h => by
    refine hs pc Q ls st μ _ ?_ h
    intro pc' ls' st' μ' hk
    cases hm : memN stops pc' with
    | true => rw [hm] at hk; exact hk
    | false => rw [hm] at hk; exact Sym.ok hs n pc' ls' st' μ' hk
-- locals and stack, by what goes on with them
def getl : List PV → Nat → (PV → Prop) → Prop
  | [], _, _ => False
  | x :: _, 0, k => k x
  | _ :: xs, n + 1, k => getl xs n k
def setl : List PV → Nat → PV → (List PV → Prop) → Prop
  | [], _, _, _ => False
  | _ :: xs, 0, v, k => k (v :: xs)
  | x :: xs, n + 1, v, k => setl xs n v (fun ys => k (x :: ys))
theorem getl_elim : ∀ {ls : List PV} {i : Nat} {k : PV → Prop}, getl ls i k → ∃ v, ls[i]? = some v ∧ k v
  | [], i, k, h => h.elim
  | x :: xs, 0, k, h => ⟨x, rfl, h⟩
  | x :: xs, n + 1, k, h => by
    obtain ⟨v, h1, h2⟩ := getl_elim (ls := xs) h
    exact ⟨v, by rw [List.getElem?_cons_succ]; exact h1, h2⟩
theorem setl_elim : ∀ {ls : List PV} {i : Nat} {v : PV} {k : List PV → Prop}, setl ls i v k → i < ls.length ∧ k (ls.set i v)
  | [], i, v, k, h => h.elim
  | x :: xs, 0, v, k, h => ⟨Nat.succ_pos _, h⟩
  | x :: xs, n + 1, v, k, h => by
    obtain ⟨h1, h2⟩ := setl_elim (ls := xs) h
    exact ⟨Nat.succ_lt_succ h1, h2⟩
def pI (v : PV) (k : Int → Prop) : Prop := match v with
  | (0, z) => k z
  | _ => False
def pR (v : PV) (k : Prop) : Prop := match Nat.ble 100 v.1 with
  | true => k
  | false => False
def pT (t : Nat) (v : PV) (k : Int → Prop) : Prop := match Nat.beq v.1 t with
  | true => k v.2
  | false => False
def s1 (st : List PV) (k : PV → List PV → Prop) : Prop := match st with
  | v :: r => k v r
  | [] => False
def sI (st : List PV) (k : Int → List PV → Prop) : Prop := s1 st fun v r => pI v fun z => k z r
def sII (st : List PV) (k : Int → Int → List PV → Prop) : Prop := sI st fun b r => sI r fun a r => k a b r
theorem pI_elim {v : PV} {k : Int → Prop} (h : pI v k) : ∃ z, v = (0, z) ∧ k z := by
  obtain ⟨t, z⟩ := v
  match t, h with
  | 0, h => exact ⟨z, rfl, h⟩
theorem pR_elim {v : PV} {k : Prop} (h : pR v k) : 100 ≤ v.1 ∧ k := by
  unfold pR at h
  cases hb : Nat.ble 100 v.1 with
  | true => rw [hb] at h; exact ⟨Nat.le_of_ble_eq_true hb, h⟩
  | false => rw [hb] at h; exact h.elim
theorem pT_elim {t : Nat} {v : PV} {k : Int → Prop} (h : pT t v k) : ∃ z, v = (t, z) ∧ k z := by
  obtain ⟨t', z⟩ := v
  unfold pT at h
  cases hb : Nat.beq t' t with
  | true => rw [hb] at h; exact ⟨z, by rw [Nat.eq_of_beq_eq_true hb], h⟩
  | false => rw [hb] at h; exact h.elim
theorem s1_elim {st : List PV} {k : PV → List PV → Prop} (h : s1 st k) : ∃ v r, st = v :: r ∧ k v r := by
  cases st with
  | nil => exact h.elim
  | cons v r => exact ⟨v, r, rfl, h⟩
theorem sI_elim {st : List PV} {k : Int → List PV → Prop} (h : sI st k) : ∃ z r, st = (0, z) :: r ∧ k z r := by
  obtain ⟨v, r, rfl, h⟩ := s1_elim h
  obtain ⟨z, rfl, h⟩ := pI_elim h
  exact ⟨z, r, rfl, h⟩
theorem sII_elim {st : List PV} {k : Int → Int → List PV → Prop} (h : sII st k) : ∃ a b r, st = (0, b) :: (0, a) :: r ∧ k a b r := by
  obtain ⟨b, r, rfl, h1⟩ := sI_elim h
  obtain ⟨a, r2, rfl, h2⟩ := sI_elim h1
  exact ⟨a, b, r2, rfl, h2⟩
-- the locals over the machine's
theorem LH.get {ad sv : Nat → Nat} {la : Array Slot} {mL : Nat} {ls : List PV} (h : LH ad sv la mL ls) {i : Nat} {v : PV} (hi : ls[i]? = some v) (h9 : v.1 ≠ 9) (h1 : v.1 ≠ 1) : la[i]? = some (.val (cv ad sv v)) := h.2.2.2 i v hi h9 h1
def lvOf (ad sv : Nat → Nat) (ls : List PV) : List (Nat × Value) := (List.range ls.length).filterMap fun i => (ls[i]?).bind fun v => if v.1 = 9 ∨ v.1 = 1 then none else some (i, cv ad sv v)
theorem lvOf_mem {ad sv : Nat → Nat} {ls : List PV} {q : Nat × Value} : q ∈ lvOf ad sv ls ↔ ∃ v : PV, ls[q.1]? = some v ∧ v.1 ≠ 9 ∧ v.1 ≠ 1 ∧ q.2 = cv ad sv v := by
  unfold lvOf
  rw [List.mem_filterMap]
  constructor
  · rintro ⟨i, hi, h⟩
    cases hv : ls[i]? with
    | none => rw [hv] at h; cases h
    | some v =>
      rw [hv] at h
      dsimp only [Option.bind] at h
      by_cases h9 : v.1 = 9 ∨ v.1 = 1
      · rw [if_pos h9] at h; cases h
      · rw [if_neg h9] at h
        cases h
        exact ⟨v, hv, fun e => h9 (Or.inl e), fun e => h9 (Or.inr e), rfl⟩
  · rintro ⟨v, hv, h9, h1, he⟩
    refine ⟨q.1, List.mem_range.mpr (List.getElem?_eq_some_iff.mp hv).1, ?_⟩
    rw [hv]
    dsimp only [Option.bind]
    rw [if_neg (by rintro (e | e) <;> contradiction), ← he]
theorem LH.lv {ad sv : Nat → Nat} {la : Array Slot} {mL : Nat} {ls : List PV} (h : LH ad sv la mL ls) : lv_has la mL (lvOf ad sv ls) := by
  refine ⟨h.1, h.2.1, fun q hq => ?_⟩
  obtain ⟨v, h1, h2, h3, h4⟩ := lvOf_mem.mp hq
  rw [h4]
  exact h.2.2.2 q.1 v h1 h2 h3
theorem LH.store {ad sv : Nat → Nat} {la la' : Array Slot} {mL : Nat} {ls : List PV} (h : LH ad sv la mL ls) {i : Nat} {v : PV} {x : Value} (hx : cv ad sv v = x) (h' : lv_has la' mL ((i, x) :: (lvOf ad sv ls).filter (fun q => !(q.1 == i) && !(q.1 + 1 == i && q.2.category == 2)))) : LH ad sv la' mL (ls.set i v) := by
  refine ⟨h'.1, h'.2.1, by rw [List.length_set]; exact h.2.2.1, fun j u hj h9 h1 => ?_⟩
  by_cases hji : j = i
  · subst hji
    have hl : j < ls.length := by simpa using (List.getElem?_eq_some_iff.mp hj).1
    rw [List.getElem?_set_self hl] at hj
    cases hj
    have h2 := h'.2.2 (j, x) List.mem_cons_self
    rw [hx]
    exact h2
  · rw [List.getElem?_set_ne (Ne.symm hji)] at hj
    refine h'.2.2 (j, cv ad sv u) (List.mem_cons_of_mem _ (List.mem_filter.mpr ⟨lvOf_mem.mpr ⟨u, hj, h9, h1, rfl⟩, ?_⟩))
    have hc := cv_cat (ad := ad) (sv := sv) h1
    simp [hji, hc]
theorem VOKs.set {w : Nat} {ls : List PV} (h : ∀ v ∈ ls, VOK w v) {i : Nat} {v : PV} (hv : VOK w v) : ∀ u ∈ ls.set i v, VOK w u := by
  intro u hu
  rcases List.mem_or_eq_of_mem_set hu with h1 | h1
  · exact h u h1
  · rw [h1]; exact hv
theorem VOKs.cons {w : Nat} {st : List PV} (h : ∀ v ∈ st, VOK w v) {v : PV} (hv : VOK w v) : ∀ u ∈ v :: st, VOK w u := by
  intro u hu
  rcases List.mem_cons.mp hu with rfl | h1
  · exact hv
  · exact h u h1
theorem VOKs.tail {w : Nat} {st : List PV} {v : PV} (h : ∀ u ∈ v :: st, VOK w u) : ∀ u ∈ st, VOK w u := fun u hu => h u (List.mem_cons_of_mem _ hu)
theorem VOKs.head {w : Nat} {st : List PV} {v : PV} (h : ∀ u ∈ v :: st, VOK w u) : VOK w v := h v List.mem_cons_self
-- numbers
theorem i32_toInt {a : Int} (h1 : -2147483648 ≤ a) (h2 : a ≤ 2147483647) : (Int32.ofInt a).toInt = a := Int32.toInt_ofInt_of_le (by omega) (by omega)
theorem i32_lt {a b : Int} (ha : -2147483648 ≤ a ∧ a ≤ 2147483647) (hb : -2147483648 ≤ b ∧ b ≤ 2147483647) : Int32.ofInt a < Int32.ofInt b ↔ a < b := by
  rw [Int32.lt_iff_toInt_lt, i32_toInt ha.1 ha.2, i32_toInt hb.1 hb.2]
theorem i32_le {a b : Int} (ha : -2147483648 ≤ a ∧ a ≤ 2147483647) (hb : -2147483648 ≤ b ∧ b ≤ 2147483647) : Int32.ofInt a ≤ Int32.ofInt b ↔ a ≤ b := by
  rw [Int32.le_iff_toInt_le, i32_toInt ha.1 ha.2, i32_toInt hb.1 hb.2]
theorem i32_eq {a b : Int} (ha : -2147483648 ≤ a ∧ a ≤ 2147483647) (hb : -2147483648 ≤ b ∧ b ≤ 2147483647) : Int32.ofInt a = Int32.ofInt b ↔ a = b := by
  constructor
  · intro h
    have := congrArg Int32.toInt h
    rwa [i32_toInt ha.1 ha.2, i32_toInt hb.1 hb.2] at this
  · intro h; rw [h]
theorem i32_0 : (0 : Int32) = Int32.ofInt 0 := by decide
theorem i32_in {a : Int} {n : Nat} (h0 : 0 ≤ a) (h1 : a < n) (hn : n < 2147483648) : vp_in (Int32.ofInt a) n ∧ (Int32.ofInt a).toNatClampNeg = a.toNat := by
  have e : (Int32.ofInt a).toNatClampNeg = a.toNat := Int32.toNatClampNeg_ofInt_of_le (by omega) (by omega)
  refine ⟨?_, e⟩
  intro q
  rcases q with q | q
  · rw [i32_0, i32_lt (by omega) (by omega)] at q
    omega
  · rw [e] at q
    omega
