/-! CONSTRUCTORS: blocks of cells, laid side by side -/
def cellG (ly : Nat → Nat) (ad : Nat → Nat) (cT : Nat → ClassId) (μ : Mem) (k : Nat) : va_E :=
  if 1000 ≤ ly k then .inl (cT 0, ly k - 1000, .inl (fun j => Int32.ofInt (μ (k : Int) (j : Int))))
  else if 10 ≤ ly k then .inl (cT (ly k - 9), rlen (ly k), .inr (.inr (.inr (.inr (fun j => some (ad (k + 1 + rstr (ly k) * j)))))))
  else .inr (ly k, objF ad (μ (k : Int)) k 0 (flds (ly k)))
def blkL (ly : Nat → Nat) (sz : Nat) (ad : Nat → Nat) (cT : Nat → ClassId) (μ : Mem) : va_W := (List.range sz).map (fun k => (ad k, cellG ly ad cT μ k))
def plB (bs : Nat → va_W) (base : va_W) : Nat → va_W
  | 0 => base
  | i + 1 => bs i ++ plB bs base i
section T85
variable {D : va_G} {cl : List vw_C} {A : Nat → Prop} {H H1 : Heap} {ly ly' ad ad' : Nat → Nat} {cT : Nat → ClassId} {μ μ' : Mem} {sz k r : Nat} {X pl bl L : va_W}
theorem blkL_ws (w : Nat) : blkL (lay w) (siz w) ad cT μ = wsW w ad cT μ := rfl
theorem blkL_len : (blkL ly sz ad cT μ).length = sz := by simp [blkL]
theorem blkL_get (hk : k < sz) : (blkL ly sz ad cT μ)[k]? = some (ad k, cellG ly ad cT μ k) := by
  unfold blkL
  rw [List.getElem?_map, List.getElem?_range hk]
  rfl
theorem blkL_of {q : Nat × va_E} (h : (blkL ly sz ad cT μ)[k]? = some q) : k < sz ∧ q = (ad k, cellG ly ad cT μ k) := by
  have hk : k < sz := by
    have h1 := (List.getElem?_eq_some_iff.mp h).1
    simpa [blkL] using h1
  rw [blkL_get hk] at h
  exact ⟨hk, (Option.some.inj h).symm⟩
theorem vP_mem {ws : va_W} : va_P D cl ws H ↔ ∀ q ∈ ws, va_at D cl q H := by
  constructor
  · intro h q hq
    obtain ⟨i, hi⟩ := List.getElem?_of_mem hq
    exact h i q hi
  · intro h k q hk
    exact h q (List.mem_of_getElem? hk)
theorem vD_split {w1 w2 : va_W} (h : va_D A (w1 ++ w2)) : va_D A w1 ∧ va_D A w2 ∧ ∀ p ∈ w1, ∀ q ∈ w2, p.1 ≠ q.1 := by
  have L1 : ∀ (i : Nat) (p : Nat × va_E), w1[i]? = some p → (w1 ++ w2)[i]? = some p := fun i p hp => by
    rw [List.getElem?_append_left (List.getElem?_eq_some_iff.mp hp).1]; exact hp
  have L2 : ∀ (i : Nat) (p : Nat × va_E), w2[i]? = some p → (w1 ++ w2)[w1.length + i]? = some p := fun i p hp => by
    rw [List.getElem?_append_right (by omega), show w1.length + i - w1.length = i by omega]; exact hp
  refine ⟨⟨fun i j p q hp hq e => h.1 i j p q (L1 i p hp) (L1 j q hq) e, fun k q hq => h.2 k q (L1 k q hq)⟩, ⟨fun i j p q hp hq e => ?_, fun k q hq => h.2 _ q (L2 k q hq)⟩, fun p hp q hq e => ?_⟩
  · have := h.1 _ _ p q (L2 i p hp) (L2 j q hq) e
    omega
  · obtain ⟨i, hi⟩ := List.getElem?_of_mem hp
    obtain ⟨j, hj⟩ := List.getElem?_of_mem hq
    have := h.1 _ _ p q (L1 i p hi) (L2 j q hj) e
    have := (List.getElem?_eq_some_iff.mp hi).1
    omega
theorem vD_app {w1 w2 : va_W} (h1 : va_D A w1) (h2 : va_D A w2) (hx : ∀ p ∈ w1, ∀ q ∈ w2, p.1 ≠ q.1) : va_D A (w1 ++ w2) := va_D.app h1 h2 (fun i j p q hp hq => hx p (List.mem_of_getElem? hp) q (List.mem_of_getElem? hq))
theorem vrot {a : Nat × va_E} (hP : va_P D cl (X ++ pl ++ [a]) H) (hD : va_D A (X ++ pl ++ [a])) : va_P D cl (X ++ a :: pl) H ∧ va_D A (X ++ a :: pl) := by
  rw [vP_mem] at hP ⊢
  obtain ⟨d1, d2, c1⟩ := vD_split hD
  obtain ⟨d3, d4, c2⟩ := vD_split d1
  refine ⟨fun q hq => hP q ?_, ?_⟩
  · simp only [List.mem_append, List.mem_cons, List.not_mem_nil, or_false] at hq ⊢
    rcases hq with h | h | h
    · exact Or.inl (Or.inl h)
    · exact Or.inr h
    · exact Or.inl (Or.inr h)
  · refine vD_app d3 (vD_app (w1 := [a]) d2 d4 (fun p hp q hq e => c1 q (List.mem_append_right _ hq) p hp e.symm)) (fun p hp q hq => ?_)
    rcases List.mem_append.mp (show q ∈ [a] ++ pl from hq) with h | h
    · exact c1 p (List.mem_append_left _ hp) q h
    · exact c2 p hp q h
theorem vjoin {ch : Nat × va_E} (hP : va_P D cl (X ++ pl ++ [ch]) H) (hD : va_D A (X ++ pl ++ [ch])) (hk : ∀ q : Nat, q < H.size → ¬ va_A [ch] H.size q → H1[q]? = H[q]?) (hF : ∀ q, va_A [ch] H.size q → A q) (hP1 : va_P D cl bl H1) (hD1 : va_D (va_A [ch] H.size) bl) : va_P D cl (X ++ (bl ++ pl)) H1 ∧ va_D A (X ++ (bl ++ pl)) := by
  rw [vP_mem] at hP hP1 ⊢
  obtain ⟨d1, d2, c1⟩ := vD_split hD
  obtain ⟨d3, d4, c2⟩ := vD_split d1
  have apart : ∀ q ∈ X ++ pl, q.1 < H.size ∧ ¬ va_A [ch] H.size q.1 := by
    intro q hq
    have hlt := (hP q (List.mem_append_left _ hq)).lt
    refine ⟨hlt, fun h => ?_⟩
    rcases h with ⟨k, e, h⟩ | h
    · have hm := List.mem_of_getElem? h
      exact c1 q hq _ hm rfl
    · omega
  have keep : ∀ q ∈ X ++ pl, va_at D cl q H1 := fun q hq => (hP q (List.mem_append_left _ hq)).kept (hk q.1 (apart q hq).1 (apart q hq).2)
  have out : ∀ p ∈ X ++ pl, ∀ q ∈ bl, p.1 ≠ q.1 := by
    intro p hp q hq e
    obtain ⟨j, hj⟩ := List.getElem?_of_mem hq
    exact (apart p hp).2 (e ▸ hD1.2 j q hj)
  refine ⟨fun q hq => ?_, vD_app d3 (vD_app (hD1.weaken (fun k q _ h => hF q.1 h)) d4 (fun p hp q hq e => out q (List.mem_append_right _ hq) p hp e.symm)) (fun p hp q hq => ?_)⟩
  · rcases List.mem_append.mp hq with h | h
    · exact keep q (List.mem_append_left _ h)
    · rcases List.mem_append.mp h with h | h
      · exact hP1 q h
      · exact keep q (List.mem_append_right _ h)
  · rcases List.mem_append.mp hq with h | h
    · exact out p (List.mem_append_left _ hp) q h
    · exact c2 p hp q h
theorem asm (pos : Nat → Nat) (hP : va_P D cl L H) (hD : va_D A L) (hL : ∀ k, k < sz → ∃ e, L[pos k]? = some (ad k, e) ∧ (va_at D cl (ad k, e) H → va_at D cl (ad k, cellG ly ad cT μ k) H)) (hi : ∀ i j, i < sz → j < sz → pos i = pos j → i = j) : va_P D cl (blkL ly sz ad cT μ) H ∧ va_D A (blkL ly sz ad cT μ) := by
  refine ⟨fun k q hk => ?_, fun i j p q hp hq e => ?_, fun k q hk => ?_⟩
  · obtain ⟨h1, rfl⟩ := blkL_of hk
    obtain ⟨e, h2, h3⟩ := hL k h1
    exact h3 (hP _ _ h2)
  · obtain ⟨h1, rfl⟩ := blkL_of hp
    obtain ⟨h2, rfl⟩ := blkL_of hq
    obtain ⟨e1, g1, -⟩ := hL i h1
    obtain ⟨e2, g2, -⟩ := hL j h2
    exact hi i j h1 h2 (hD.1 _ _ _ _ g1 g2 e)
  · obtain ⟨h1, rfl⟩ := blkL_of hk
    obtain ⟨e, h2, -⟩ := hL k h1
    exact hD.2 _ (ad k, e) h2
theorem objF_eq {ad ad' : Nat → Nat} {f f' : Int → Int} {k r : Nat} (hf : ∀ b, f b = f' b) : ∀ (os : List Int) (j : Nat), (∀ o ∈ os, 0 ≤ o → ad (k + o.toNat) = ad' (r + o.toNat)) → objF ad f k j os = objF ad' f' r j os
  | [], j, _ => rfl
  | o :: os, j, h => by
    unfold objF
    rw [objF_eq hf os (j + 1) (fun o ho => h o (List.mem_cons_of_mem _ ho)), hf]
    by_cases ho : o < 0
    · rw [if_pos ho, if_pos ho]
    · rw [if_neg ho, if_neg ho, h o List.mem_cons_self (by omega)]
theorem arrV_eq {cA : ClassId} {n : Nat} {f g : Nat → Value} (h : ∀ j, j < n → f j = g j) : arrV cA n f = arrV cA n g := by
  unfold arrV
  congr 1
  congr 1
  funext j
  exact h j.val j.isLt
/-- a cell of a part is a cell of the whole -/
theorem cell_tr (h : va_at D cl (ad k, cellG ly' ad' cT μ' r) H) (h2 : ly k = ly' r) (h3 : ∀ j, μ (k : Int) j = μ' (r : Int) j) (h4 : ly k < 10 → ∀ o ∈ flds (ly k), 0 ≤ o → ad (k + o.toNat) = ad' (r + o.toNat)) (h5 : 10 ≤ ly k → ly k < 1000 → ∀ j, j < rlen (ly k) → ad (k + 1 + rstr (ly k) * j) = ad' (r + 1 + rstr (ly k) * j)) : va_at D cl (ad k, cellG ly ad cT μ k) H := by
  unfold cellG at h ⊢
  rw [← h2] at h
  by_cases c1 : 1000 ≤ ly k
  · rw [if_pos c1] at h ⊢
    simp only [h3]
    exact h
  · rw [if_neg c1] at h ⊢
    by_cases c2 : 10 ≤ ly k
    · rw [if_pos c2] at h ⊢
      have h5 := h5 c2 (by omega)
      have h' : H[ad k]? = some (vp_cell (cT (ly k - 9)) (rlen (ly k), .inr (.inr (.inr (.inr (fun j => some (ad' (r + 1 + rstr (ly k) * j)))))))) := h
      show H[ad k]? = some (vp_cell (cT (ly k - 9)) (rlen (ly k), .inr (.inr (.inr (.inr (fun j => some (ad (k + 1 + rstr (ly k) * j))))))))
      rw [h', vp_cell_q, vp_cell_q]
      congr 1
      exact arrV_eq (fun j hj => by rw [h5 j hj])
    · rw [if_neg c2] at h ⊢
      rw [objF_eq h3 (flds (ly k)) 0 (h4 (by omega))]
      exact h
theorem plB_get {bs : Nat → va_W} {base : va_W} {sz : Nat} (hl : ∀ j, (bs j).length = sz) : ∀ n j r, j < n → r < sz → (plB bs base n)[(n - 1 - j) * sz + r]? = (bs j)[r]?
  | 0, j, r, hj, _ => absurd hj (by omega)
  | n + 1, j, r, hj, hr => by
    show (bs n ++ plB bs base n)[(n + 1 - 1 - j) * sz + r]? = _
    by_cases hjn : j = n
    · subst hjn
      rw [show j + 1 - 1 - j = 0 by omega, Nat.zero_mul, Nat.zero_add, List.getElem?_append_left (by rw [hl]; exact hr)]
    · have ih := plB_get (base := base) hl n j r (by omega) hr
      have e : (n + 1 - 1 - j) * sz + r = sz + ((n - 1 - j) * sz + r) := by
        rw [show n + 1 - 1 - j = (n - 1 - j) + 1 by omega, Nat.add_mul, Nat.one_mul]; omega
      rw [e, List.getElem?_append_right (by rw [hl]; omega), hl, show sz + ((n - 1 - j) * sz + r) - sz = (n - 1 - j) * sz + r by omega]
      exact ih
theorem plB_base {bs : Nat → va_W} {base : va_W} {sz : Nat} (hl : ∀ j, (bs j).length = sz) : ∀ n i, (plB bs base n)[n * sz + i]? = base[i]?
  | 0, i => by rw [Nat.zero_mul, Nat.zero_add]; rfl
  | n + 1, i => by
    show (bs n ++ plB bs base n)[(n + 1) * sz + i]? = _
    rw [show (n + 1) * sz + i = sz + (n * sz + i) by rw [Nat.add_mul, Nat.one_mul]; omega, List.getElem?_append_right (by rw [hl]; omega), hl, show sz + (n * sz + i) - sz = n * sz + i by omega]
    exact plB_base hl n i
theorem plB_congr {bs bs' : Nat → va_W} {base : va_W} : ∀ n, (∀ j, j < n → bs j = bs' j) → plB bs base n = plB bs' base n
  | 0, _ => rfl
  | n + 1, h => by
    show bs n ++ plB bs base n = bs' n ++ plB bs' base n
    rw [plB_congr n (fun j hj => h j (by omega)), h n (by omega)]
end T85
section T85b
theorem arr_uni {U : State} {cA cB : ClassId} (h1 : va_RA U cA .int) (h2 : va_RA U cB .int) : cA = cB := Option.some.inj (Eq.trans (Eq.symm h1) h2)
theorem arr_unq {U : State} {cA cB : ClassId} {C : String} (h1 : va_RA U cA (.object C)) (h2 : va_RA U cB (.object C)) : cA = cB := by
  obtain ⟨-, -, -, -, -, a⟩ := h1
  obtain ⟨-, -, -, -, -, b⟩ := h2
  exact Option.some.inj (Eq.trans (Eq.symm a) b)
def AO (U : State) : Prop := va_AO RX0 U ∧ va_AO RX1 U ∧ va_AO RX2 U
theorem AO.moved {u U : State} (hvm : u.vm.Alike U.vm) (h : AO u) : AO U := ⟨h.1.moved hvm, h.2.1.moved hvm, h.2.2.moved hvm⟩
/-- what a constructor needs to be true besides its cell -/
def CW (D : va_G) (cT : Nat → ClassId) (U : State) : Prop := va_K D vwCl (tysW cT) U ∧ NW U ∧ AO U
theorem CW.same {D : va_G} {cT : Nat → ClassId} {U V : State} (hv : U.vm = V.vm) (h : CW D cT U) : CW D cT V := ⟨va_K.moved (by rw [hv]; exact Vm.Alike.refl _) h.1, NW.same hv h.2.1, h.2.2.moved (by rw [hv]; exact Vm.Alike.refl _)⟩
theorem CW.warm {D : va_G} {cT : Nat → ClassId} {s U : State} (hW : s.WarmedH U.vm) (h : CW D cT s) : CW D cT U := ⟨va_K.moved hW.alike h.1, h.2.1.warm hW, h.2.2.moved hW.alike⟩
def rmC (d mc ms : Nat) : Room := { frames := d, cells := mc, slots := ms, locals := 40 * d }
/-- a constructor's contract: its cell becomes a block -/
def KC (y : MethodName) (code : ByteArray) (maxL d ci : Nat) (fs : List Value) (ly : Nat → Nat) (sz mc ms : Nat) (I : Mem → Prop) : Prop :=
  ∀ (l : Launch) (D : va_G) (cT : Nat → ClassId) (h0 s0 : Nat), Met l y (Cond.code y code maxL none :: gW) (rmC d mc ms) (va_Pc [.ref h0] (fun U => U.heap.size = s0 ∧ va_P D vwCl [(h0, .inr (ci, fs))] U.heap ∧ CW D cT U))
    (va_Qv (S := (Nat → Nat) × Mem) (fun u => u.1 0 = h0 ∧ I u.2) (fun u t => va_P D vwCl (blkL ly sz u.1 cT u.2) t.heap ∧ va_D (va_A [(h0, .inr (ci, fs))] s0) (blkL ly sz u.1 cT u.2)) (va_A [(h0, .inr (ci, fs))] s0)) mc ms (va_A [(h0, .inr (ci, fs))] s0)
end T85b
