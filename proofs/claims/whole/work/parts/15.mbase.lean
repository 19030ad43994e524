/-! THE MODEL: its memory as a working row r (head g, services v), scratch W, and the rest -/
def upg (g : Int → Int) (k x : Int) : Int → Int := fun j => if j = k then x else g j
def rowOf (g : Int → Int) (v : Mem) (k : Int) : Int := if k < 8 then g k else v ((k - 8) / 98) ((k - 8) % 98)
def wk (μ : Mem) (r : Int) (g : Int → Int) (v W : Mem) : Mem := fun c i => if c = 1 ∧ 400 * r ≤ i ∧ i < 400 * r + 400 then rowOf g v (i - 400 * r) else if 2 ≤ c ∧ c ≤ 9 then W c i else μ c i
section RD
variable {μ : Mem} {r : Int} {g : Int → Int} {v W : Mem} {c i x : Int}
theorem rd_v (s w : Int) (hc : c = 1) (hi : i = 400 * r + 8 + 98 * s + w) (hb : 0 ≤ s ∧ s < 4 ∧ 0 ≤ w ∧ w < 98) : wk μ r g v W c i = v s w := by
  unfold wk rowOf
  rw [if_pos (by omega), if_neg (by omega)]
  congr 1 <;> omega
theorem rd_g (k : Int) (hc : c = 1) (hi : i = 400 * r + k) (hb : 0 ≤ k ∧ k < 8) : wk μ r g v W c i = g k := by
  unfold wk rowOf
  rw [if_pos (by omega), if_pos (by omega)]
  congr 1; omega
theorem rd_W (hc : 2 ≤ c ∧ c ≤ 9) : wk μ r g v W c i = W c i := by
  unfold wk
  rw [if_neg (by omega), if_pos hc]
theorem rd_o (hc : c ≤ 0 ∨ 10 ≤ c) : wk μ r g v W c i = μ c i := by
  unfold wk
  rw [if_neg (by omega), if_neg (by omega)]
theorem rd_r (r' k : Int) (hc : c = 1) (hi : i = 400 * r' + k) (hb : 0 ≤ k ∧ k < 400 ∧ r' ≠ r) : wk μ r g v W c i = μ 1 (400 * r' + k) := by
  unfold wk
  rw [if_neg (by omega), if_neg (by omega), hc, hi]
theorem wr_v (s w : Int) (hc : c = 1) (hi : i = 400 * r + 8 + 98 * s + w) (hb : 0 ≤ s ∧ s < 4 ∧ 0 ≤ w ∧ w < 98) : upm (wk μ r g v W) c i x = wk μ r g (upm v s w x) W := by
  funext c' i'
  unfold upm wk rowOf
  try dsimp only
  by_cases h1 : c' = c ∧ i' = i
  · rw [if_pos h1, if_pos (by omega), if_neg (by omega), if_pos (by omega)]
  · rw [if_neg h1]
    by_cases h2 : c' = 1 ∧ 400 * r ≤ i' ∧ i' < 400 * r + 400
    · rw [if_pos h2, if_pos h2]
      by_cases h3 : i' - 400 * r < 8
      · rw [if_pos h3, if_pos h3]
      · rw [if_neg h3, if_neg h3, if_neg (by omega)]
    · rw [if_neg h2, if_neg h2]
theorem wr_g (k : Int) (hc : c = 1) (hi : i = 400 * r + k) (hb : 0 ≤ k ∧ k < 8) : upm (wk μ r g v W) c i x = wk μ r (upg g k x) v W := by
  funext c' i'
  unfold upm wk rowOf upg
  try dsimp only
  by_cases h1 : c' = c ∧ i' = i
  · rw [if_pos h1, if_pos (by omega), if_pos (by omega), if_pos (by omega)]
  · rw [if_neg h1]
    by_cases h2 : c' = 1 ∧ 400 * r ≤ i' ∧ i' < 400 * r + 400
    · rw [if_pos h2, if_pos h2]
      by_cases h3 : i' - 400 * r < 8
      · rw [if_pos h3, if_pos h3, if_neg (by omega)]
      · rw [if_neg h3, if_neg h3]
    · rw [if_neg h2, if_neg h2]
theorem wr_W (hc : 2 ≤ c ∧ c ≤ 9) : upm (wk μ r g v W) c i x = wk μ r g v (upm W c i x) := by
  funext c' i'
  unfold upm wk
  try dsimp only
  by_cases h1 : c' = c ∧ i' = i
  · rw [if_pos h1, if_neg (by omega), if_pos (by omega), if_pos h1]
  · rw [if_neg h1, if_neg h1]
/-- any memory is a working one -/
theorem wk_self (μ : Mem) (r : Int) : μ = wk μ r (fun k => μ 1 (400 * r + k)) (fun s w => μ 1 (400 * r + 8 + 98 * s + w)) μ := by
  funext c i
  unfold wk rowOf
  by_cases h2 : c = 1 ∧ 400 * r ≤ i ∧ i < 400 * r + 400
  · rw [if_pos h2, h2.1]
    by_cases h3 : i - 400 * r < 8
    · rw [if_pos h3]; congr 1; omega
    · rw [if_neg h3]; congr 1; omega
  · rw [if_neg h2]
    split <;> rfl
theorem upm_at (μ : Mem) (c j x : Int) : upm μ c j x c j = x := by simp [upm]
theorem upm_ne {μ : Mem} {c j x a b : Int} (h : ¬ (a = c ∧ b = j)) : upm μ c j x a b = μ a b := by
  unfold upm
  rw [if_neg h]
end RD
theorem zc_lt {a b : Int} (ha : -9000000000 ≤ a ∧ a ≤ 9000000000) (hb : -9000000000 ≤ b ∧ b ≤ 9000000000) : (lg_cmp (Int64.ofInt a) (Int64.ofInt b) < 0 ↔ a < b) ∧ (0 < lg_cmp (Int64.ofInt a) (Int64.ofInt b) ↔ b < a) := by
  have ea : (Int64.ofInt a).toInt = a := Int64.toInt_ofInt_of_le (by omega) (by omega)
  have eb : (Int64.ofInt b).toInt = b := Int64.toInt_ofInt_of_le (by omega) (by omega)
  unfold lg_cmp
  by_cases h1 : Int64.ofInt b < Int64.ofInt a
  · have h2 : b < a := by rw [Int64.lt_iff_toInt_lt, ea, eb] at h1; exact h1
    simp only [h1, if_true]
    constructor
    · constructor
      · intro h; exact absurd h (by decide)
      · intro h; omega
    · exact ⟨fun _ => h2, fun _ => by decide⟩
  · have h2 : ¬ b < a := by rw [Int64.lt_iff_toInt_lt, ea, eb] at h1; exact h1
    by_cases h3 : Int64.ofInt a = Int64.ofInt b
    · have h4 : a = b := by have := congrArg Int64.toInt h3; rwa [ea, eb] at this
      subst h4
      simp
    · have h4 : ¬ a = b := fun e => h3 (by rw [e])
      simp only [h1, if_false, h3]
      constructor
      · exact ⟨fun _ => by omega, fun _ => by decide⟩
      · constructor
        · intro h; exact absurd h (by decide)
        · intro h; omega
set_option maxRecDepth 20000 in
theorem qX5_in {μ : Mem} {a lo hi : Int} {Q : PV → Mem → Prop} (ha : -9000000000 ≤ a ∧ a ≤ 9000000000) (hlo : -9000000000 ≤ lo ∧ lo ≤ 9000000000) (hhi : -9000000000 ≤ hi ∧ hi ≤ 9000000000) (h1 : lo ≤ a ∧ a ≤ hi → Q (0, 1) μ) (h0 : ¬ (lo ≤ a ∧ a ≤ hi) → Q (0, 0) μ) : MetP mX5_in [(1, a), (1, lo), (1, hi)] μ Q := by
  intro hv l ad sv D cT sz
  refine Met.ofW (cc := cX5_in) (maxL := 6) (ret := some .boolean) (by decide) rfl ?_
  intro p e s m args below meth c s₁ B hml hpre
  obtain ⟨rfl, rfl, hP, hK, hD0, hN, hSt⟩ := hpre
  have hx := B.exec
  have hb := B.bytes
  have hr := B.returns
  have hlk := B.notSynchronized
  have hl := lv_entry ([.long (Int64.ofInt a), .long (Int64.ofInt lo), .long (Int64.ofInt hi)]) (n := 6) (Nat.le_of_ble_eq_true rfl)
  show W p l e _ s m _ below meth c s.heap [] 0 0 _ (entryFrame m ([Value.long (Int64.ofInt a), .long (Int64.ofInt lo), .long (Int64.ofInt hi)] : List Value).toArray 6)
  rw [lg_entry_eq]
  generalize (lg_sl ([Value.long (Int64.ofInt a), .long (Int64.ofInt lo), .long (Int64.ofInt hi)]) ++ List.replicate (6 - (lg_sl ([Value.long (Int64.ofInt a), .long (Int64.ofInt lo), .long (Int64.ofInt hi)])).length) Slot.unset).toArray = la at hl ⊢
  have hl : lv_has la 6 [(0, .long (Int64.ofInt a)), (2, .long (Int64.ofInt lo)), (4, .long (Int64.ofInt hi))] := hl
  have fin : ∀ (az : Array Value) (z : Int), (z = 0 ∨ z = 1) → Q (0, z) μ → W p l e (headSpec (mCode mX5_in :: gW) (rmL mX5_in.2.1)).room s m az below meth c s.heap [] 0 0 (MQ below (PostW mX5_in.1 ad sv D cT s.heap.size mX5_in.2.2.2.2.2 Q) az s 0 0 (AA mX5_in.1 ad s.heap.size)) (F0 m 18 la [.int (Int32.ofInt z)]) := fun az z hz hq =>
    W.zret (v := Int32.ofInt z) hx hb hr (by rcases hz with rfl | rfl <;> rfl) (fun t ht hW => ⟨⟨(0, z), μ, rfl, rfl, VOK_lt (Nat.zero_lt_succ 99), hq, by rw [ht]; exact hP⟩, va_S.rf.F ht⟩) (fun _ h => by cases h) dX5_in_18 hlk
  refine lv_lload_n hx hb dX5_in_0 rfl (lv_at hl 0 rfl) ?_
  refine lv_lload_n hx hb dX5_in_1 rfl (lv_at hl 1 rfl) ?_
  refine W.lcmp hx hb dX5_in_2 ?_
  refine lv_if_lt (tgt := 17) hx hb dX5_in_3 (by decide) (fun q => ?_) (fun q => ?_)
  · refine lv_iconst (v := Int32.ofInt 0) hx hb dX5_in_17 rfl ?_
    refine fin _ 0 (Or.inl rfl) (h0 ?_)
    rw [(zc_lt ha hlo).1] at q
    omega
  · refine lv_lload_n hx hb dX5_in_6 rfl (lv_at hl 0 rfl) ?_
    refine lv_lload hx hb dX5_in_7 (lv_at hl 2 rfl) ?_
    refine W.lcmp hx hb dX5_in_9 ?_
    refine lv_if_gt (tgt := 17) hx hb dX5_in_10 (by decide) (fun q2 => ?_) (fun q2 => ?_)
    · refine lv_iconst (v := Int32.ofInt 0) hx hb dX5_in_17 rfl ?_
      refine fin _ 0 (Or.inl rfl) (h0 ?_)
      rw [(zc_lt ha hhi).2] at q2
      omega
    · refine lv_iconst (v := Int32.ofInt 1) hx hb dX5_in_13 rfl ?_
      refine lv_goto (tgt := 18) hx hb dX5_in_14 (by decide) ?_
      refine fin _ 1 (Or.inr rfl) (h1 ?_)
      rw [(zc_lt ha hhi).2] at q2
      rw [(zc_lt ha hlo).1] at q
      omega
