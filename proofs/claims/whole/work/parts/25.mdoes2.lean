/-! a whole round, in closed form -/
def weighTo (g : Int → Int) (v W : Mem) (i : Int) : Mem := fun c s => if 0 ≤ s ∧ s < i then (if c = 2 then wantedV g (v s) else if c = 3 then steadyV (wantedV g (v s)) (v s) else if c = 4 then boundV (wantedV g (v s)) (v s) else if c = 5 then dueV (wantedV g (v s)) (v s) else W c s) else W c s
def gvX (v W : Mem) (s : Int) : Int := max (cntV (v s) - W 5 s) 0
def givTo (v W : Mem) (i : Int) : Mem := fun s w => if 0 ≤ s ∧ s < i then giveV (v s) (gvX v W s) w else v s w
def givW (v W : Mem) (i : Int) : Mem := fun c s => if c = 9 ∧ 0 ≤ s ∧ s < i then gvX v W s else W c s
def smTo (v W : Mem) (i : Int) : Mem := fun s w => if 0 ≤ s ∧ s < i then sumsV (v s) (W 2 s) (W 8 s) (W 9 s) w else v s w
def smW (v W : Mem) (i : Int) : Mem := fun c s => if c = 6 ∧ 0 ≤ s ∧ s < i then cntV (v s) else W c s
theorem weighTo_0 (g : Int → Int) (v W : Mem) : weighTo g v W 0 = W := by
  funext c s; unfold weighTo; rw [if_neg (by omega)]
theorem givTo_0 (v W : Mem) : givTo v W 0 = v := by
  funext c s; unfold givTo; rw [if_neg (by omega)]
theorem givW_0 (v W : Mem) : givW v W 0 = W := by
  funext c s; unfold givW; rw [if_neg (by omega)]
theorem smTo_0 (v W : Mem) : smTo v W 0 = v := by
  funext c s; unfold smTo; rw [if_neg (by omega)]
theorem smW_0 (v W : Mem) : smW v W 0 = W := by
  funext c s; unfold smW; rw [if_neg (by omega)]
theorem weighTo_succ {g : Int → Int} {v W : Mem} {i : Int} (hi : 0 ≤ i) : weighW g (v i) (weighTo g v W i) i = weighTo g v W (i + 1) := by
  funext c s
  unfold weighW upm weighTo
  by_cases hs : s = i
  · subst hs
    rw [if_neg (show ¬ (0 ≤ s ∧ s < s) by omega), if_pos (show 0 ≤ s ∧ s < s + 1 by omega)]
    by_cases h5 : c = 5
    · subst h5; simp
    by_cases h4 : c = 4
    · subst h4; simp
    by_cases h3 : c = 3
    · subst h3; simp
    by_cases h2 : c = 2
    · subst h2; simp
    simp [h5, h4, h3, h2]
  · rw [if_neg (by omega), if_neg (by omega), if_neg (by omega), if_neg (by omega)]
    by_cases h2 : 0 ≤ s ∧ s < i
    · rw [if_pos h2, if_pos (show 0 ≤ s ∧ s < i + 1 by omega)]
    · rw [if_neg h2, if_neg (show ¬ (0 ≤ s ∧ s < i + 1) by omega)]
theorem givTo_at (v W : Mem) (i : Int) : givTo v W i i = v i := by
  funext w; unfold givTo; rw [if_neg (by omega)]
theorem smTo_at (v W : Mem) (i : Int) : smTo v W i i = v i := by
  funext w; unfold smTo; rw [if_neg (by omega)]
theorem givTo_succ {v W : Mem} {i : Int} (hi : 0 ≤ i) : setS (givTo v W i) i (giveV (v i) (gvX v W i)) = givTo v W (i + 1) := by
  funext s w
  unfold setS givTo
  by_cases hs : s = i
  · rw [if_pos hs, if_pos (show 0 ≤ s ∧ s < i + 1 by omega), hs]
  · rw [if_neg hs]
    by_cases h2 : 0 ≤ s ∧ s < i
    · rw [if_pos h2, if_pos (show 0 ≤ s ∧ s < i + 1 by omega)]
    · rw [if_neg h2, if_neg (show ¬ (0 ≤ s ∧ s < i + 1) by omega)]
theorem smTo_succ {v W : Mem} {i : Int} (hi : 0 ≤ i) : setS (smTo v W i) i (sumsV (v i) (W 2 i) (W 8 i) (W 9 i)) = smTo v W (i + 1) := by
  funext s w
  unfold setS smTo
  by_cases hs : s = i
  · rw [if_pos hs, if_pos (show 0 ≤ s ∧ s < i + 1 by omega), hs]
  · rw [if_neg hs]
    by_cases h2 : 0 ≤ s ∧ s < i
    · rw [if_pos h2, if_pos (show 0 ≤ s ∧ s < i + 1 by omega)]
    · rw [if_neg h2, if_neg (show ¬ (0 ≤ s ∧ s < i + 1) by omega)]
theorem givW_succ {v W : Mem} {i : Int} (hi : 0 ≤ i) : upm (givW v W i) 9 i (gvX v W i) = givW v W (i + 1) := by
  funext c s
  unfold upm givW
  by_cases hs : c = 9 ∧ s = i
  · rw [if_pos hs, if_pos (show c = 9 ∧ 0 ≤ s ∧ s < i + 1 by omega), hs.2]
  · rw [if_neg hs]
    by_cases h2 : c = 9 ∧ 0 ≤ s ∧ s < i
    · rw [if_pos h2, if_pos (show c = 9 ∧ 0 ≤ s ∧ s < i + 1 by omega)]
    · rw [if_neg h2, if_neg (show ¬ (c = 9 ∧ 0 ≤ s ∧ s < i + 1) by omega)]
theorem smW_succ {v W : Mem} {i : Int} (hi : 0 ≤ i) : upm (smW v W i) 6 i (cntV (v i)) = smW v W (i + 1) := by
  funext c s
  unfold upm smW
  by_cases hs : c = 6 ∧ s = i
  · rw [if_pos hs, if_pos (show c = 6 ∧ 0 ≤ s ∧ s < i + 1 by omega), hs.2]
  · rw [if_neg hs]
    by_cases h2 : c = 6 ∧ 0 ≤ s ∧ s < i
    · rw [if_pos h2, if_pos (show c = 6 ∧ 0 ≤ s ∧ s < i + 1 by omega)]
    · rw [if_neg h2, if_neg (show ¬ (c = 6 ∧ 0 ≤ s ∧ s < i + 1) by omega)]
/-- after step 2, 3, 4, 5 -/
def d1v (g : Int → Int) (v : Mem) : Mem := wakeTo v (g 7)
def d2W (g : Int → Int) (v W : Mem) : Mem := weighTo g (d1v g v) W (g 7)
def d3v (g : Int → Int) (v W : Mem) : Mem := givTo (d1v g v) (d2W g v W) (g 7)
def d3W (g : Int → Int) (v W : Mem) : Mem := givW (d1v g v) (d2W g v W) (g 7)
def d4 (g : Int → Int) (v W : Mem) : GS := getsX g (d3v g v W) (d3W g v W)
def d5g (g : Int → Int) (v W : Mem) : Int → Int := upg (d4 g v W).1 5 (min ((d4 g v W).1 5 + (d4 g v W).1 3) ((d4 g v W).1 2))
def d5v (g : Int → Int) (v W : Mem) : Mem := smTo (d4 g v W).2.1 (d4 g v W).2.2 (g 7)
def d5W (g : Int → Int) (v W : Mem) : Mem := smW (d4 g v W).2.1 (d4 g v W).2.2 (g 7)
def doesX (g : Int → Int) (v W : Mem) : GS := (upg (d5g g v W) 6 (d5g g v W 6 + 1), d5v g v W, d5W g v W)
section M12
variable {μ : Mem} {r s m : Int} {g u : Int → Int} {v W : Mem} {Q : PV → Mem → Prop}
theorem BV_wake (hB : BV u) : BV (wakeV u) := by
  have e : ∀ k, k ≠ 10 → k ≠ 11 → wakeV u k = u k := fun k h1 h2 => by unfold wakeV; rw [upg_ne h2, upg_ne h1]
  have e10 : wakeV u 10 = u 10 + u 11 := by unfold wakeV; rw [upg_ne (by omega), upg_at]
  have e11 : wakeV u 11 = 0 := by unfold wakeV; rw [upg_at]
  obtain ⟨h0, h1, h01, h2, h3, h4, h5, h6, h7, h8, h9, hs, hc, hw, h24, hm, h31, hM⟩ := hB
  have hc2 : cntV (wakeV u) = cntV u := by
    unfold cntV
    rw [e10, e11, e 12 (by omega) (by omega), e 13 (by omega) (by omega), e 14 (by omega) (by omega), e 15 (by omega) (by omega), e 16 (by omega) (by omega), e 17 (by omega) (by omega)]
    omega
  unfold BV
  rw [hc2, e10, e11, e 0 (by omega) (by omega), e 1 (by omega) (by omega), e 2 (by omega) (by omega), e 3 (by omega) (by omega), e 4 (by omega) (by omega), e 5 (by omega) (by omega), e 6 (by omega) (by omega), e 7 (by omega) (by omega), e 8 (by omega) (by omega), e 9 (by omega) (by omega), e 12 (by omega) (by omega), e 13 (by omega) (by omega), e 14 (by omega) (by omega), e 15 (by omega) (by omega), e 16 (by omega) (by omega), e 17 (by omega) (by omega), e 24 (by omega) (by omega), e 31 (by omega) (by omega)]
  refine ⟨h0, h1, h01, h2, h3, h4, h5, h6, h7, h8, h9, by omega, hc, fun k q1 q2 => ?_, h24, fun k q1 q2 => ?_, h31, fun m q1 q2 => ?_⟩
  · rw [e k (by omega) (by omega)]; exact hw k q1 q2
  · rw [e k (by omega) (by omega)]; exact hm k q1 q2
  · rw [e _ (by omega) (by omega), e _ (by omega) (by omega), e _ (by omega) (by omega)]
    obtain ⟨a1, a2, a3, a4⟩ := hM m q1 q2
    refine ⟨a1, a2, a3, fun k p1 p2 => ?_⟩
    rw [e _ (by omega) (by omega)]
    exact a4 k p1 p2
theorem dueV_bd {x : Int} (hB : BV u) : 0 ≤ dueV x u ∧ dueV x u ≤ 20 ∧ u 0 ≤ dueV x u ∧ dueV x u ≤ u 1 := by
  obtain ⟨h0, h1, h01, -⟩ := hB
  unfold dueV
  omega
theorem lfN_sum {u : Int → Int} {x : Int} : ∀ j : Nat, j ≤ 7 → sumN (fun k => giveN u x 7 (17 - k)) j + (x - lfN u x j) = sumN (fun k => u (17 - k)) j
  | 0, _ => by simp [sumN, lfN]
  | j + 1, hj => by
    have ih := lfN_sum (u := u) (x := x) j (by omega)
    have e : giveN u x 7 (17 - (j : Int)) = u (17 - (j : Int)) - min (u (17 - (j : Int))) (lfN u x j) := by
      unfold giveN
      rw [if_pos (by omega), show (17 - (17 - (j : Int))).toNat = j by omega]
    show sumN (fun k => giveN u x 7 (17 - k)) j + giveN u x 7 (17 - (j : Int)) + (x - (lfN u x j - min (u (17 - (j : Int))) (lfN u x j))) = sumN (fun k => u (17 - k)) j + u (17 - (j : Int))
    rw [e]
    omega
theorem cnt_giveV {x : Int} : cntV (giveV u x) = cntV u - x := by
  have h := lfN_sum (u := u) (x := x) 7 (by omega)
  have e : ∀ k, k ≠ 10 → giveV u x k = giveN u x 7 k := fun k hk => by unfold giveV; rw [upg_ne hk]
  have e10 : giveV u x 10 = u 10 - lfN u x 7 := by unfold giveV; rw [upg_at]
  simp [sumN] at h
  unfold cntV
  rw [e10, e 11 (by omega), e 12 (by omega), e 13 (by omega), e 14 (by omega), e 15 (by omega), e 16 (by omega), e 17 (by omega)]
  omega
theorem giveV_ne {x k : Int} (h : k < 10 ∨ 17 < k) : giveV u x k = u k := by
  unfold giveV giveN
  rw [upg_ne (by omega), if_neg (by omega)]
end M12
