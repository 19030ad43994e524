/-! CONSTRUCTORS: the blocks put together -/
section T89
variable {D : va_G} {cl : List vw_C} {H : Heap} {A : Nat → Prop} {cT : Nat → ClassId} {ly : Nat → Nat} {sz n j r lx : Nat} {u : Nat → (Nat → Nat) × Mem} {X base : va_W}
def ar0 (cA : ClassId) (n : Nat) : va_E := .inl (cA, n, .inl (fun _ => Int32.ofInt 0))
theorem plB_at (hlx : X.length = lx) (hj : j < n) (hr : r < sz) : (X ++ plB (bsU ly sz cT u) base n)[lx + ((n - 1 - j) * sz + r)]? = some ((u j).1 r, cellG ly (u j).1 cT (u j).2 r) := by
  rw [List.getElem?_append_right (by omega), hlx, show lx + ((n - 1 - j) * sz + r) - lx = (n - 1 - j) * sz + r by omega, plB_get (bs := bsU ly sz cT u) (fun j => blkL_len) n j r hj hr]
  exact blkL_get hr
theorem plB_bs (hlx : X.length = lx) (i : Nat) : (X ++ plB (bsU ly sz cT u) base n)[lx + (n * sz + i)]? = base[i]? := by
  rw [List.getElem?_append_right (by omega), hlx, show lx + (n * sz + i) - lx = n * sz + i by omega, plB_base (bs := bsU ly sz cT u) (sz := sz) (fun j => blkL_len) n i]
def adS (h0 q1 q2 q3 q4 q5 : Nat) (u : Nat → (Nat → Nat) × Mem) (k : Nat) : Nat := if k < 3 then (match k with | 0 => h0 | 1 => q1 | _ => q2) else if k < 9 then (u ((k - 3) / 2)).1 ((k - 3) % 2) else (match k with | 9 => q3 | 10 => q4 | _ => q5)
def muS (u : Nat → (Nat → Nat) × Mem) : Mem := fun a b => if 3 ≤ a ∧ a < 9 then (u ((a.toNat - 3) / 2)).2 (((a.toNat - 3) % 2 : Nat) : Int) b else if a = 0 ∧ b = 16 then -1 else 0
theorem as_S {h0 q1 q2 q3 q4 q5 : Nat} {f : Nat → Option Nat} (hf : ∀ j, j < 3 → f j = some ((u j).1 0)) (hP : va_P D cl ([(h0, .inr (2, [.ref q1, .ref q2, .int (Int32.ofInt 0), .int (Int32.ofInt 0), .int (Int32.ofInt 0), .ref q3, .ref q4, .ref q5, .int (Int32.ofInt 0), .int (Int32.ofInt 0), .int (Int32.ofInt 0), .int (Int32.ofInt 0), .int (Int32.ofInt 0), .int (Int32.ofInt 0), .int (Int32.ofInt 0), .int (Int32.ofInt 0), .int (Int32.ofInt (-1))])), (q1, ar0 (cT 0) 9), (q2, arQ (cT 3) 3 f), (q3, ar0 (cT 0) 8), (q4, ar0 (cT 0) 8), (q5, ar0 (cT 0) 4)] ++ plB (bsU layMs 2 cT u) [] 3) H)
    (hD : va_D A ([(h0, .inr (2, [.ref q1, .ref q2, .int (Int32.ofInt 0), .int (Int32.ofInt 0), .int (Int32.ofInt 0), .ref q3, .ref q4, .ref q5, .int (Int32.ofInt 0), .int (Int32.ofInt 0), .int (Int32.ofInt 0), .int (Int32.ofInt 0), .int (Int32.ofInt 0), .int (Int32.ofInt 0), .int (Int32.ofInt 0), .int (Int32.ofInt 0), .int (Int32.ofInt (-1))])), (q1, ar0 (cT 0) 9), (q2, arQ (cT 3) 3 f), (q3, ar0 (cT 0) 8), (q4, ar0 (cT 0) 8), (q5, ar0 (cT 0) 4)] ++ plB (bsU layMs 2 cT u) [] 3)) :
    ∃ v : (Nat → Nat) × Mem, v.1 0 = h0 ∧ va_P D cl (blkL layS 12 v.1 cT v.2) H ∧ va_D A (blkL layS 12 v.1 cT v.2) := by
  have hAD : ∀ j r, j < 3 → r < 2 → adS h0 q1 q2 q3 q4 q5 u (3 + 2 * j + r) = (u j).1 r := by
    intro j r hj hr
    unfold adS
    rw [if_neg (by omega), if_pos (by omega), show (3 + 2 * j + r - 3) / 2 = j by omega, show (3 + 2 * j + r - 3) % 2 = r by omega]
  have hMU : ∀ j r, j < 3 → r < 2 → ∀ b, muS u ((3 + 2 * j + r : Nat) : Int) b = (u j).2 (r : Int) b := by
    intro j r hj hr b
    unfold muS
    rw [if_pos (by omega), Int.toNat_natCast, show (3 + 2 * j + r - 3) / 2 = j by omega, show (3 + 2 * j + r - 3) % 2 = r by omega]
  have hLY : ∀ j r, j < 3 → r < 2 → layS (3 + 2 * j + r) = layMs r := fun j r hj hr => (by decide +kernel : ∀ j, j < 3 → ∀ r, r < 2 → layS (3 + 2 * j + r) = layMs r) j hj r hr
  obtain ⟨h1, h2⟩ := asm (ly := layS) (sz := 12) (ad := adS h0 q1 q2 q3 q4 q5 u) (cT := cT) (μ := muS u) (fun k => if k < 3 then k else if k < 9 then 6 + ((3 - 1 - (k - 3) / 2) * 2 + (k - 3) % 2) else k - 6) hP hD (fun k hk => by
      rcases (by omega : k = 0 ∨ k = 1 ∨ k = 2 ∨ (3 ≤ k ∧ k < 9) ∨ k = 9 ∨ k = 10 ∨ k = 11) with rfl | rfl | rfl | h | rfl | rfl | rfl
      · exact ⟨_, rfl, fun h => h⟩
      · exact ⟨_, rfl, fun h => h⟩
      · refine ⟨_, rfl, fun h => arr_emb (g := fun j => some (adS h0 q1 q2 q3 q4 q5 u (2 + 1 + 2 * j))) (fun j hj => ?_) h⟩
        rw [hf j hj]
        exact congrArg some (hAD j 0 hj (by omega)).symm
      · obtain ⟨j, r, hj, hr, rfl⟩ : ∃ j r, j < 3 ∧ r < 2 ∧ k = 3 + 2 * j + r := ⟨(k - 3) / 2, (k - 3) % 2, by omega, by omega, by omega⟩
        refine ⟨cellG layMs (u j).1 cT (u j).2 r, ?_, fun h => cell_emb (B := 3 + 2 * j) clo_Ms hr (fun r hr => hLY j r hj hr) (fun r hr => hMU j r hj hr) (fun r hr => hAD j r hj hr) h⟩
        rw [hAD j r hj hr, if_neg (by omega), if_pos (by omega), show (3 + 2 * j + r - 3) / 2 = j by omega, show (3 + 2 * j + r - 3) % 2 = r by omega]
        exact plB_at rfl hj hr
      · exact ⟨_, rfl, fun h => h⟩
      · exact ⟨_, rfl, fun h => h⟩
      · exact ⟨_, rfl, fun h => h⟩) (fun i j hi hj h => by
      split at h <;> split at h <;> (try split at h) <;> (try split at h) <;> omega)
  exact ⟨(adS h0 q1 q2 q3 q4 q5 u, muS u), rfl, h1, h2⟩
def adH (h0 q1 q2 : Nat) (u : Nat → (Nat → Nat) × Mem) (k : Nat) : Nat := if k < 3 then (match k with | 0 => h0 | 1 => q1 | _ => q2) else (u ((k - 3) / 12)).1 ((k - 3) % 12)
def muH (u : Nat → (Nat → Nat) × Mem) : Mem := fun a b => if 3 ≤ a then (u ((a.toNat - 3) / 12)).2 (((a.toNat - 3) % 12 : Nat) : Int) b else 0
theorem as_H {h0 q1 q2 : Nat} {f : Nat → Option Nat} (hf : ∀ j, j < 4 → f j = some ((u j).1 0)) (hP : va_P D cl ([(h0, .inr (0, [.ref q1, .ref q2, .int (Int32.ofInt 0), .int (Int32.ofInt 0), .int (Int32.ofInt 0)])), (q1, ar0 (cT 0) 5), (q2, arQ (cT 2) 4 f)] ++ plB (bsU layS 12 cT u) [] 4) H)
    (hD : va_D A ([(h0, .inr (0, [.ref q1, .ref q2, .int (Int32.ofInt 0), .int (Int32.ofInt 0), .int (Int32.ofInt 0)])), (q1, ar0 (cT 0) 5), (q2, arQ (cT 2) 4 f)] ++ plB (bsU layS 12 cT u) [] 4)) :
    ∃ v : (Nat → Nat) × Mem, v.1 0 = h0 ∧ va_P D cl (blkL layH 51 v.1 cT v.2) H ∧ va_D A (blkL layH 51 v.1 cT v.2) := by
  have hAD : ∀ j r, j < 4 → r < 12 → adH h0 q1 q2 u (3 + 12 * j + r) = (u j).1 r := by
    intro j r hj hr
    unfold adH
    rw [if_neg (by omega), show (3 + 12 * j + r - 3) / 12 = j by omega, show (3 + 12 * j + r - 3) % 12 = r by omega]
  have hMU : ∀ j r, j < 4 → r < 12 → ∀ b, muH u ((3 + 12 * j + r : Nat) : Int) b = (u j).2 (r : Int) b := by
    intro j r hj hr b
    unfold muH
    rw [if_pos (by omega), Int.toNat_natCast, show (3 + 12 * j + r - 3) / 12 = j by omega, show (3 + 12 * j + r - 3) % 12 = r by omega]
  have hLY : ∀ j r, j < 4 → r < 12 → layH (3 + 12 * j + r) = layS r := fun j r hj hr => (by decide +kernel : ∀ j, j < 4 → ∀ r, r < 12 → layH (3 + 12 * j + r) = layS r) j hj r hr
  obtain ⟨h1, h2⟩ := asm (ly := layH) (sz := 51) (ad := adH h0 q1 q2 u) (cT := cT) (μ := muH u) (fun k => if k < 3 then k else 3 + ((4 - 1 - (k - 3) / 12) * 12 + (k - 3) % 12)) hP hD (fun k hk => by
      rcases (by omega : k = 0 ∨ k = 1 ∨ k = 2 ∨ 3 ≤ k) with rfl | rfl | rfl | h
      · exact ⟨_, rfl, fun h => h⟩
      · exact ⟨_, rfl, fun h => h⟩
      · refine ⟨_, rfl, fun h => arr_emb (g := fun j => some (adH h0 q1 q2 u (2 + 1 + 12 * j))) (fun j hj => ?_) h⟩
        rw [hf j hj]
        exact congrArg some (hAD j 0 hj (by omega)).symm
      · obtain ⟨j, r, hj, hr, rfl⟩ : ∃ j r, j < 4 ∧ r < 12 ∧ k = 3 + 12 * j + r := ⟨(k - 3) / 12, (k - 3) % 12, by omega, by omega, by omega⟩
        refine ⟨cellG layS (u j).1 cT (u j).2 r, ?_, fun h => cell_emb (B := 3 + 12 * j) clo_S hr (fun r hr => hLY j r hj hr) (fun r hr => hMU j r hj hr) (fun r hr => hAD j r hj hr) h⟩
        rw [hAD j r hj hr, if_neg (by omega), show (3 + 12 * j + r - 3) / 12 = j by omega, show (3 + 12 * j + r - 3) % 12 = r by omega]
        exact plB_at rfl hj hr) (fun i j hi hj h => by
      split at h <;> split at h <;> omega)
  exact ⟨(adH h0 q1 q2 u, muH u), rfl, h1, h2⟩
def adX (h0 qk : Nat) (ux uc ut : (Nat → Nat) × Mem) (u : Nat → (Nat → Nat) × Mem) (k : Nat) : Nat := if k = 0 then h0 else if k < 3 then ux.1 (k - 1) else if k < 54 then uc.1 (k - 3) else if k < 105 then ut.1 (k - 54) else if k = 105 then qk else (u ((k - 106) / 51)).1 ((k - 106) % 51)
def muX (ux uc ut : (Nat → Nat) × Mem) (u : Nat → (Nat → Nat) × Mem) : Mem := fun a b => if a < 1 then 0 else if a < 3 then ux.2 ((a.toNat - 1 : Nat) : Int) b else if a < 54 then uc.2 ((a.toNat - 3 : Nat) : Int) b else if a < 105 then ut.2 ((a.toNat - 54 : Nat) : Int) b else if a = 105 then 0 else (u ((a.toNat - 106) / 51)).2 (((a.toNat - 106) % 51 : Nat) : Int) b
theorem as_X {h0 qk a1 a2 a3 : Nat} {ux uc ut : (Nat → Nat) × Mem} (e1 : ux.1 0 = a1) (e2 : uc.1 0 = a2) (e3 : ut.1 0 = a3) {f : Nat → Option Nat} (hf : ∀ j, j < 10 → f j = some ((u j).1 0)) (hP : va_P D cl ([(h0, .inr (4, [.ref a1, .ref a2, .ref a3, .ref qk, .int (Int32.ofInt 0), .int (Int32.ofInt 0), .int (Int32.ofInt 0)])), (qk, arQ (cT 1) 10 f)] ++ plB (bsU layH 51 cT u) (blkL layH 51 ut.1 cT ut.2 ++ (blkL layH 51 uc.1 cT uc.2 ++ (blkL layTx 2 ux.1 cT ux.2 ++ []))) 10) H)
    (hD : va_D A ([(h0, .inr (4, [.ref a1, .ref a2, .ref a3, .ref qk, .int (Int32.ofInt 0), .int (Int32.ofInt 0), .int (Int32.ofInt 0)])), (qk, arQ (cT 1) 10 f)] ++ plB (bsU layH 51 cT u) (blkL layH 51 ut.1 cT ut.2 ++ (blkL layH 51 uc.1 cT uc.2 ++ (blkL layTx 2 ux.1 cT ux.2 ++ []))) 10)) :
    ∃ v : (Nat → Nat) × Mem, v.1 0 = h0 ∧ ((∀ b, v.2 0 b = 0) ∧ ∀ b, v.2 1 b = ux.2 0 b) ∧ va_P D cl (blkL (lay 0) 616 v.1 cT v.2) H ∧ va_D A (blkL (lay 0) 616 v.1 cT v.2) := by
  subst e1 e2 e3
  have hAD : ∀ j r, j < 10 → r < 51 → adX h0 qk ux uc ut u (106 + 51 * j + r) = (u j).1 r := by
    intro j r hj hr
    unfold adX
    rw [if_neg (by omega), if_neg (by omega), if_neg (by omega), if_neg (by omega), if_neg (by omega), show (106 + 51 * j + r - 106) / 51 = j by omega, show (106 + 51 * j + r - 106) % 51 = r by omega]
  have hMU : ∀ j r, j < 10 → r < 51 → ∀ b, muX ux uc ut u ((106 + 51 * j + r : Nat) : Int) b = (u j).2 (r : Int) b := by
    intro j r hj hr b
    unfold muX
    rw [if_neg (by omega), if_neg (by omega), if_neg (by omega), if_neg (by omega), if_neg (by omega), Int.toNat_natCast, show (106 + 51 * j + r - 106) / 51 = j by omega, show (106 + 51 * j + r - 106) % 51 = r by omega]
  have hLY : ∀ j r, j < 10 → r < 51 → lay 0 (106 + 51 * j + r) = layH r := fun j r hj hr => (by decide +kernel : ∀ j, j < 10 → ∀ r, r < 51 → lay 0 (106 + 51 * j + r) = layH r) j hj r hr
  have hA1 : ∀ r, r < 2 → adX h0 qk ux uc ut u (1 + r) = ux.1 r := by
    intro r hr
    unfold adX
    rw [if_neg (by omega), if_pos (by omega), show 1 + r - 1 = r by omega]
  have hM1 : ∀ r, r < 2 → ∀ b, muX ux uc ut u ((1 + r : Nat) : Int) b = ux.2 (r : Int) b := by
    intro r hr b
    unfold muX
    rw [if_neg (by omega), if_pos (by omega), Int.toNat_natCast, show 1 + r - 1 = r by omega]
  have hL1 : ∀ r, r < 2 → lay 0 (1 + r) = layTx r := by decide +kernel
  have hA3 : ∀ r, r < 51 → adX h0 qk ux uc ut u (3 + r) = uc.1 r := by
    intro r hr
    unfold adX
    rw [if_neg (by omega), if_neg (by omega), if_pos (by omega), show 3 + r - 3 = r by omega]
  have hM3 : ∀ r, r < 51 → ∀ b, muX ux uc ut u ((3 + r : Nat) : Int) b = uc.2 (r : Int) b := by
    intro r hr b
    unfold muX
    rw [if_neg (by omega), if_neg (by omega), if_pos (by omega), Int.toNat_natCast, show 3 + r - 3 = r by omega]
  have hL3 : ∀ r, r < 51 → lay 0 (3 + r) = layH r := by decide +kernel
  have hA5 : ∀ r, r < 51 → adX h0 qk ux uc ut u (54 + r) = ut.1 r := by
    intro r hr
    unfold adX
    rw [if_neg (by omega), if_neg (by omega), if_neg (by omega), if_pos (by omega), show 54 + r - 54 = r by omega]
  have hM5 : ∀ r, r < 51 → ∀ b, muX ux uc ut u ((54 + r : Nat) : Int) b = ut.2 (r : Int) b := by
    intro r hr b
    unfold muX
    rw [if_neg (by omega), if_neg (by omega), if_neg (by omega), if_pos (by omega), Int.toNat_natCast, show 54 + r - 54 = r by omega]
  have hL5 : ∀ r, r < 51 → lay 0 (54 + r) = layH r := by decide +kernel
  generalize hX : ([(h0, .inr (4, [.ref (ux.1 0), .ref (uc.1 0), .ref (ut.1 0), .ref qk, .int (Int32.ofInt 0), .int (Int32.ofInt 0), .int (Int32.ofInt 0)])), (qk, arQ (cT 1) 10 f)] : va_W) = X at hP hD
  have hlx : X.length = 2 := by rw [← hX]; rfl
  have hX0 : X[0]? = some (h0, .inr (4, [.ref (ux.1 0), .ref (uc.1 0), .ref (ut.1 0), .ref qk, .int (Int32.ofInt 0), .int (Int32.ofInt 0), .int (Int32.ofInt 0)])) := by rw [← hX]; rfl
  have hX1 : X[1]? = some (qk, arQ (cT 1) 10 f) := by rw [← hX]; rfl
  obtain ⟨h1, h2⟩ := asm (ly := lay 0) (sz := 616) (ad := adX h0 qk ux uc ut u) (cT := cT) (μ := muX ux uc ut u) (fun k => if k = 0 then 0 else if k < 3 then 2 + (10 * 51 + (102 + (k - 1))) else if k < 54 then 2 + (10 * 51 + (51 + (k - 3))) else if k < 105 then 2 + (10 * 51 + (k - 54)) else if k = 105 then 1 else 2 + ((10 - 1 - (k - 106) / 51) * 51 + (k - 106) % 51)) hP hD (fun k hk => by
      rcases (by omega : k = 0 ∨ (1 ≤ k ∧ k < 3) ∨ (3 ≤ k ∧ k < 54) ∨ (54 ≤ k ∧ k < 105) ∨ k = 105 ∨ 106 ≤ k) with rfl | h | h | h | rfl | h
      · refine ⟨_, ?_, fun h => h⟩
        rw [if_pos rfl, List.getElem?_append_left (by omega), hX0]
        rfl
      · obtain ⟨r, hr, rfl⟩ : ∃ r, r < 2 ∧ k = 1 + r := ⟨k - 1, by omega, by omega⟩
        refine ⟨cellG layTx ux.1 cT ux.2 r, ?_, fun h => cell_emb (B := 1) clo_Tx hr hL1 hM1 hA1 h⟩
        rw [hA1 r hr, if_neg (by omega), if_pos (by omega), plB_bs hlx, List.getElem?_append_right (by rw [blkL_len]; omega), blkL_len, List.getElem?_append_right (by rw [blkL_len]; omega), blkL_len, List.append_nil, show 102 + (1 + r - 1) - 51 - 51 = r by omega]
        exact blkL_get hr
      · obtain ⟨r, hr, rfl⟩ : ∃ r, r < 51 ∧ k = 3 + r := ⟨k - 3, by omega, by omega⟩
        refine ⟨cellG layH uc.1 cT uc.2 r, ?_, fun h => cell_emb (B := 3) clo_H hr hL3 hM3 hA3 h⟩
        rw [hA3 r hr, if_neg (by omega), if_neg (by omega), if_pos (by omega), plB_bs hlx, List.getElem?_append_right (by rw [blkL_len]; omega), blkL_len, List.getElem?_append_left (by rw [blkL_len]; omega), show 51 + (3 + r - 3) - 51 = r by omega]
        exact blkL_get hr
      · obtain ⟨r, hr, rfl⟩ : ∃ r, r < 51 ∧ k = 54 + r := ⟨k - 54, by omega, by omega⟩
        refine ⟨cellG layH ut.1 cT ut.2 r, ?_, fun h => cell_emb (B := 54) clo_H hr hL5 hM5 hA5 h⟩
        rw [hA5 r hr, if_neg (by omega), if_neg (by omega), if_neg (by omega), if_pos (by omega), plB_bs hlx, List.getElem?_append_left (by rw [blkL_len]; omega), show 54 + r - 54 = r by omega]
        exact blkL_get hr
      · refine ⟨arQ (cT 1) 10 f, ?_, fun h => arr_emb (g := fun j => some (adX h0 qk ux uc ut u (105 + 1 + 51 * j))) (fun j hj => ?_) h⟩
        · rw [if_neg (by omega), if_neg (by omega), if_neg (by omega), if_neg (by omega), if_pos rfl, List.getElem?_append_left (by omega), hX1]
          rfl
        · rw [hf j hj]
          exact congrArg some (hAD j 0 hj (by omega)).symm
      · obtain ⟨j, r, hj, hr, rfl⟩ : ∃ j r, j < 10 ∧ r < 51 ∧ k = 106 + 51 * j + r := ⟨(k - 106) / 51, (k - 106) % 51, by omega, by omega, by omega⟩
        refine ⟨cellG layH (u j).1 cT (u j).2 r, ?_, fun h => cell_emb (B := 106 + 51 * j) clo_H hr (fun r hr => hLY j r hj hr) (fun r hr => hMU j r hj hr) (fun r hr => hAD j r hj hr) h⟩
        rw [hAD j r hj hr, if_neg (by omega), if_neg (by omega), if_neg (by omega), if_neg (by omega), if_neg (by omega), show (106 + 51 * j + r - 106) / 51 = j by omega, show (106 + 51 * j + r - 106) % 51 = r by omega]
        exact plB_at hlx hj hr) (fun i j hi hj h => by
      repeat' split at h
      all_goals omega)
  exact ⟨(adX h0 qk ux uc ut u, muX ux uc ut u), rfl, ⟨fun b => rfl, fun b => hM1 0 (by omega) b⟩, h1, h2⟩
end T89
