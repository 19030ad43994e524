section M15
variable {μ : Mem} {r s m : Int} {g u : Int → Int} {v W : Mem} {Q : PV → Mem → Prop}
theorem sv_0 (x got gave : Int) : sumsV u x got gave 0 = u 0 := by simp [sumsV, shS, shSk, shPm, mwV, shW, shWk, mv3, st1, upg]
theorem sv_1 (x got gave : Int) : sumsV u x got gave 1 = u 1 := by simp [sumsV, shS, shSk, shPm, mwV, shW, shWk, mv3, st1, upg]
theorem sv_2 (x got gave : Int) : sumsV u x got gave 2 = u 2 := by simp [sumsV, shS, shSk, shPm, mwV, shW, shWk, mv3, st1, upg]
theorem sv_3 (x got gave : Int) : sumsV u x got gave 3 = u 3 := by simp [sumsV, shS, shSk, shPm, mwV, shW, shWk, mv3, st1, upg]
theorem sv_4 (x got gave : Int) : sumsV u x got gave 4 = u 4 := by simp [sumsV, shS, shSk, shPm, mwV, shW, shWk, mv3, st1, upg]
theorem sv_5 (x got gave : Int) : sumsV u x got gave 5 = u 5 := by simp [sumsV, shS, shSk, shPm, mwV, shW, shWk, mv3, st1, upg]
theorem sv_6 (x got gave : Int) : sumsV u x got gave 6 = u 6 := by simp [sumsV, shS, shSk, shPm, mwV, shW, shWk, mv3, st1, upg]
theorem sv_7 (x got gave : Int) : sumsV u x got gave 7 = u 7 := by simp [sumsV, shS, shSk, shPm, mwV, shW, shWk, mv3, st1, upg]
theorem sv_8 (x got gave : Int) : sumsV u x got gave 8 = u 8 := by simp [sumsV, shS, shSk, shPm, mwV, shW, shWk, mv3, st1, upg]
theorem sv_9 (x got gave : Int) : sumsV u x got gave 9 = u 9 := by simp [sumsV, shS, shSk, shPm, mwV, shW, shWk, mv3, st1, upg]
theorem sv_10 (x got gave : Int) : sumsV u x got gave 10 = u 10 := by simp [sumsV, shS, shSk, shPm, mwV, shW, shWk, mv3, st1, upg]
theorem sv_11 (x got gave : Int) : sumsV u x got gave 11 = u 12 := by simp [sumsV, shS, shSk, shPm, mwV, shW, shWk, mv3, st1, upg]
theorem sv_12 (x got gave : Int) : sumsV u x got gave 12 = u 13 := by simp [sumsV, shS, shSk, shPm, mwV, shW, shWk, mv3, st1, upg]
theorem sv_13 (x got gave : Int) : sumsV u x got gave 13 = u 14 := by simp [sumsV, shS, shSk, shPm, mwV, shW, shWk, mv3, st1, upg]
theorem sv_14 (x got gave : Int) : sumsV u x got gave 14 = u 15 := by simp [sumsV, shS, shSk, shPm, mwV, shW, shWk, mv3, st1, upg]
theorem sv_15 (x got gave : Int) : sumsV u x got gave 15 = u 16 := by simp [sumsV, shS, shSk, shPm, mwV, shW, shWk, mv3, st1, upg]
theorem sv_16 (x got gave : Int) : sumsV u x got gave 16 = u 17 := by simp [sumsV, shS, shSk, shPm, mwV, shW, shWk, mv3, st1, upg]
theorem sv_17 (x got gave : Int) : sumsV u x got gave 17 = 0 := by simp [sumsV, shS, shSk, shPm, mwV, shW, shWk, mv3, st1, upg]
theorem sv_18 (x got gave : Int) : sumsV u x got gave 18 = x := by simp [sumsV, shS, shSk, shPm, mwV, shW, shWk, mv3, st1, upg]
theorem sv_19 (x got gave : Int) : sumsV u x got gave 19 = u 18 := by simp [sumsV, shS, shSk, shPm, mwV, shW, shWk, mv3, st1, upg]
theorem sv_20 (x got gave : Int) : sumsV u x got gave 20 = u 19 := by simp [sumsV, shS, shSk, shPm, mwV, shW, shWk, mv3, st1, upg]
theorem sv_21 (x got gave : Int) : sumsV u x got gave 21 = u 20 := by simp [sumsV, shS, shSk, shPm, mwV, shW, shWk, mv3, st1, upg]
theorem sv_22 (x got gave : Int) : sumsV u x got gave 22 = u 21 := by simp [sumsV, shS, shSk, shPm, mwV, shW, shWk, mv3, st1, upg]
theorem sv_23 (x got gave : Int) : sumsV u x got gave 23 = u 22 := by simp [sumsV, shS, shSk, shPm, mwV, shW, shWk, mv3, st1, upg]
theorem sv_24 (x got gave : Int) : sumsV u x got gave 24 = u 24 + (if u 24 < 6 then 1 else 0) := by simp [sumsV, shS, shSk, shPm, mwV, shW, shWk, mv3, st1, upg]
theorem sv_25 (x got gave : Int) : sumsV u x got gave 25 = got := by simp [sumsV, shS, shSk, shPm, mwV, shW, shWk, mv3, st1, upg]
theorem sv_26 (x got gave : Int) : sumsV u x got gave 26 = u 25 := by simp [sumsV, shS, shSk, shPm, mwV, shW, shWk, mv3, st1, upg]
theorem sv_27 (x got gave : Int) : sumsV u x got gave 27 = u 26 := by simp [sumsV, shS, shSk, shPm, mwV, shW, shWk, mv3, st1, upg]
theorem sv_28 (x got gave : Int) : sumsV u x got gave 28 = gave := by simp [sumsV, shS, shSk, shPm, mwV, shW, shWk, mv3, st1, upg]
theorem sv_29 (x got gave : Int) : sumsV u x got gave 29 = u 28 := by simp [sumsV, shS, shSk, shPm, mwV, shW, shWk, mv3, st1, upg]
theorem sv_30 (x got gave : Int) : sumsV u x got gave 30 = u 29 := by simp [sumsV, shS, shSk, shPm, mwV, shW, shWk, mv3, st1, upg]
theorem sv_31 (x got gave : Int) : sumsV u x got gave 31 = (if 0 < got then 1 else if 0 < gave then -1 else u 31) := by simp [sumsV, shS, shSk, shPm, mwV, shW, shWk, mv3, st1, upg]
theorem sv_32 (x got gave : Int) : sumsV u x got gave 32 = u 32 + cntV u := by simp [sumsV, shS, shSk, shPm, mwV, shW, shWk, mv3, st1, upg]
theorem sv_33 (x got gave : Int) : sumsV u x got gave 33 = u 33 + max (x - u 10) 0 := by simp [sumsV, shS, shSk, shPm, mwV, shW, shWk, mv3, st1, upg]
theorem sv_34 (x got gave : Int) : sumsV u x got gave 34 = u 34 + (if (0 < got ∧ u 31 < 0) ∨ (0 < gave ∧ 0 < u 31) then 1 else 0) := by simp [sumsV, shS, shSk, shPm, mwV, shW, shWk, mv3, st1, upg]
theorem sv_hi (x got gave : Int) {w : Int} (hw : 35 ≤ w) : sumsV u x got gave w = shPm u (u 9) w := by
  have e : ∀ w, 35 ≤ w → mwV (shW (mv3 (mv3 (st1 u x got gave) 25 got) 28 gave) x) w = u w := by
    intro w hw
    unfold mwV
    rw [upg_ne (by omega)]
    unfold shW
    rw [upg_ne (by omega)]
    unfold shWk
    rw [if_neg (by omega)]
    unfold mv3 st1
    rw [upg_ne (by omega), upg_ne (by omega), upg_ne (by omega), upg_ne (by omega), upg_ne (by omega), upg_ne (by omega), upg_ne (by omega), upg_ne (by omega), upg_ne (by omega), upg_ne (by omega)]
  unfold sumsV shS
  rw [upg_ne (by omega)]
  unfold shSk
  rw [if_neg (by omega)]
  unfold shPm
  by_cases h1 : 38 ≤ w ∧ w < 98 ∧ (w - 35) / 21 < u 9 ∧ 3 ≤ (w - 35) % 21
  · rw [if_pos h1, if_pos h1, e _ (by omega)]
  · rw [if_neg h1, if_neg h1, e _ (by omega)]
theorem shPm_ktv {m n : Int} (hm : 0 ≤ m) : shPm u n (35 + 21 * m) = u (35 + 21 * m) ∧ shPm u n (36 + 21 * m) = u (36 + 21 * m) ∧ shPm u n (37 + 21 * m) = u (37 + 21 * m) := by
  unfold shPm
  refine ⟨?_, ?_, ?_⟩
  · rw [if_neg (by omega)]
  · rw [if_neg (by omega)]
  · rw [if_neg (by omega)]
theorem shPm_past {m n k : Int} (hm : 0 ≤ m ∧ m < n ∧ m < 3) (hk : 0 ≤ k ∧ k < 18) : shPm u n (38 + 21 * m + k) = u (37 + 21 * m + k) := by
  unfold shPm
  rw [if_pos (by omega)]
  congr 1
  omega
theorem cnt_sums {x got gave : Int} : cntV (sumsV u x got gave) = cntV u - u 11 + (u 11 - u 11) - u 12 + u 12 := by
  unfold cntV
  rw [sv_10, sv_11, sv_12, sv_13, sv_14, sv_15, sv_16, sv_17]
  omega
theorem BV_sums {x got gave : Int} (hB : BV u) (hx : 0 ≤ x ∧ x ≤ 300000) (hgot : 0 ≤ got ∧ got ≤ 20) (hgave : 0 ≤ gave ∧ gave ≤ 20) : BV (sumsV u x got gave) := by
  obtain ⟨h0, h1, h01, h2, h3, h4, h5, h6, h7, h8, h9, hs, hc, hw, h24, hm, h31, hM⟩ := hB
  unfold BV
  rw [cnt_sums, sv_0, sv_1, sv_2, sv_3, sv_4, sv_5, sv_6, sv_7, sv_8, sv_9, sv_10, sv_11, sv_12, sv_13, sv_14, sv_15, sv_16, sv_17, sv_24, sv_31]
  refine ⟨h0, h1, h01, h2, h3, h4, h5, h6, h7, h8, h9, by omega, by omega, fun k q1 q2 => ?_, by split <;> omega, fun k q1 q2 => ?_, by split <;> (try split) <;> omega, fun m q1 q2 => ?_⟩
  · rcases (show k = 18 ∨ k = 19 ∨ k = 20 ∨ k = 21 ∨ k = 22 ∨ k = 23 by omega) with rfl | rfl | rfl | rfl | rfl | rfl
    · rw [sv_18]; exact hx
    · rw [sv_19]; exact hw 18 (by omega) (by omega)
    · rw [sv_20]; exact hw 19 (by omega) (by omega)
    · rw [sv_21]; exact hw 20 (by omega) (by omega)
    · rw [sv_22]; exact hw 21 (by omega) (by omega)
    · rw [sv_23]; exact hw 22 (by omega) (by omega)
  · rcases (show k = 25 ∨ k = 26 ∨ k = 27 ∨ k = 28 ∨ k = 29 ∨ k = 30 by omega) with rfl | rfl | rfl | rfl | rfl | rfl
    · rw [sv_25]; exact hgot
    · rw [sv_26]; exact hm 25 (by omega) (by omega)
    · rw [sv_27]; exact hm 26 (by omega) (by omega)
    · rw [sv_28]; exact hgave
    · rw [sv_29]; exact hm 28 (by omega) (by omega)
    · rw [sv_30]; exact hm 29 (by omega) (by omega)
  · rw [sv_hi _ _ _ (by omega), sv_hi _ _ _ (by omega), sv_hi _ _ _ (by omega), (shPm_ktv q1).1, (shPm_ktv q1).2.1, (shPm_ktv q1).2.2]
    obtain ⟨a1, a2, a3, a4⟩ := hM m q1 q2
    refine ⟨a1, a2, a3, fun k p1 p2 => ?_⟩
    rw [sv_hi _ _ _ (by omega), shPm_past ⟨q1, q2, by omega⟩ ⟨p1, p2⟩]
    by_cases hk : k = 0
    · subst hk
      rw [Int.add_zero]
      exact a3
    · have := a4 (k - 1) (by omega) (by omega)
      rw [show 38 + 21 * m + (k - 1) = 37 + 21 * m + k by omega] at this
      exact this
/-- a change of READY and STARTING alone -/
theorem BV_st {u' : Int → Int} (hB : BV u) (he : ∀ k, k < 10 ∨ 17 < k → u' k = u k) (h10 : 0 ≤ u' 10) (hst : ∀ k, 11 ≤ k → k ≤ 17 → 0 ≤ u' k) (hc : cntV u' ≤ 20) : BV u' := by
  obtain ⟨h0, h1, h01, h2, h3, h4, h5, h6, h7, h8, h9, -, -, hw, h24, hm, h31, hM⟩ := hB
  unfold BV
  rw [he 0 (by omega), he 1 (by omega), he 2 (by omega), he 3 (by omega), he 4 (by omega), he 5 (by omega), he 6 (by omega), he 7 (by omega), he 8 (by omega), he 9 (by omega), he 24 (by omega), he 31 (by omega)]
  refine ⟨h0, h1, h01, h2, h3, h4, h5, h6, h7, h8, h9, ⟨h10, hst 11 (by omega) (by omega), hst 12 (by omega) (by omega), hst 13 (by omega) (by omega), hst 14 (by omega) (by omega), hst 15 (by omega) (by omega), hst 16 (by omega) (by omega), hst 17 (by omega) (by omega)⟩, hc, fun k q1 q2 => ?_, h24, fun k q1 q2 => ?_, h31, fun m q1 q2 => ?_⟩
  · rw [he k (by omega)]; exact hw k q1 q2
  · rw [he k (by omega)]; exact hm k q1 q2
  · rw [he _ (by omega), he _ (by omega), he _ (by omega)]
    obtain ⟨a1, a2, a3, a4⟩ := hM m q1 q2
    refine ⟨a1, a2, a3, fun k p1 p2 => ?_⟩
    rw [he _ (by omega)]
    exact a4 k p1 p2
theorem BV_give {x : Int} (hB : BV u) (hx : 0 ≤ x ∧ x ≤ cntV u) : BV (giveV u x) := by
  have hn := giveV_nn hB hx
  have hc := cntV_bd hB
  exact BV_st hB (fun k hk => giveV_ne hk) hn.1 hn.2 (by rw [cnt_giveV]; omega)
theorem getV_nn {wm gt c : Int} (hu : ∀ k, 11 ≤ k → k ≤ 17 → 0 ≤ u k) (hw : 0 ≤ wm ∧ wm ≤ gt) (hc : 1 ≤ c ∧ c ≤ 6) : ∀ k, 11 ≤ k → k ≤ 17 → 0 ≤ getV u wm gt c k := by
  intro k h1 h2
  have h3 := hu k h1 h2
  have h4 := hu 12 (by omega) (by omega)
  have h5 := hu (11 + c) (by omega) (by omega)
  unfold getV upg
  split
  · split <;> omega
  · split <;> omega
theorem BV_get {wm gt c : Int} (hB : BV u) (hw : 0 ≤ wm ∧ wm ≤ gt) (hc : 1 ≤ c ∧ c ≤ 6) (hg : cntV u + gt ≤ 20) : BV (getV u wm gt c) := by
  have hu : ∀ k, 11 ≤ k → k ≤ 17 → 0 ≤ u k := by
    intro k h1 h2
    obtain ⟨-, -, -, -, -, -, -, -, -, -, -, hb, -⟩ := hB
    rcases (show k = 11 ∨ k = 12 ∨ k = 13 ∨ k = 14 ∨ k = 15 ∨ k = 16 ∨ k = 17 by omega) with rfl | rfl | rfl | rfl | rfl | rfl | rfl <;> omega
  refine BV_st hB (fun k hk => getV_ne hc (by omega)) ?_ (getV_nn hu hw hc) (by rw [cnt_getV hc]; exact hg)
  rw [getV_ne hc (by omega)]
  exact (cntV_bd hB).2.2.1
theorem getV_00 {c : Int} : getV u 0 0 c = u := by
  funext w
  unfold getV upg
  split
  · rename_i h
    subst h
    split
    · rename_i h2; rw [h2]; omega
    · omega
  · split
    · rename_i h2; rw [h2]; omega
    · rfl
/-- a service, behind a round -/
theorem d4_at (hG : BG g) (hB : ∀ s, 0 ≤ s → s < g 7 → BV (v s)) (hs : 0 ≤ s ∧ s < g 7) : ∃ wm gt : Int, (0 ≤ wm ∧ wm ≤ gt) ∧ gt ≤ max (dueV (wantedV g (wakeV (v s))) (wakeV (v s)) - cntV (d3v g v W s)) 0 ∧ (d4 g v W).2.1 s = getV (d3v g v W s) wm gt (g 1) ∧ (d4 g v W).2.2 8 s = gt := by
  obtain ⟨g0, g1, -, -, -, g5, -, g7⟩ := id hG
  have hp := d4_pre (W := W) hB
  have hO : OKG (g, d3v g v W, getsW (d3v g v W) (g 7) (d3W g v W)) 20 := by
    refine ⟨g1, g0, g5, g7, fun k q1 q2 => ?_⟩
    obtain ⟨b1, b2, b3⟩ := hp k q1 q2
    dsimp only at q2 ⊢
    rw [getsW_5, getsW_6 ⟨q1, q2⟩]
    exact ⟨b3, b1, b1⟩
  have hn : (((g 7).toNat : Nat) : Int) = (g, d3v g v W, getsW (d3v g v W) (g 7) (d3W g v W)).1 7 := by
    show ((g 7).toNat : Int) = g 7
    omega
  have e8 : getsW (d3v g v W) (g 7) (d3W g v W) 8 s = 0 := by
    unfold getsW
    rw [plTo_ne (by omega)]
    unfold cntW
    rw [if_neg (by omega), if_pos (by omega)]
  have e5 : getsW (d3v g v W) (g 7) (d3W g v W) 5 s = dueV (wantedV g (wakeV (v s))) (wakeV (v s)) := by
    rw [getsW_5, d3W_ne (by omega), (d2W_at hs).2.2.2]
  have e6 : getsW (d3v g v W) (g 7) (d3W g v W) 6 s = cntV (d3v g v W s) := getsW_6 hs
  obtain ⟨o1, o2⟩ := outN_at hO hn (s := s) hs (g 7).toNat
  dsimp only at o1 o2
  by_cases hc : 0 ≤ getsW (d3v g v W) (g 7) (d3W g v W) 7 s ∧ getsW (d3v g v W) (g 7) (d3W g v W) 7 s < ((g 7).toNat : Int)
  · obtain ⟨wm, gt, h1, h2, h3, h4⟩ := o2 hc
    rw [e5, e6] at h2
    exact ⟨wm, gt, h1, h2, h3, h4⟩
  · obtain ⟨h3, h4⟩ := o1 hc
    refine ⟨0, 0, by omega, by omega, ?_, ?_⟩
    · rw [getV_00]; exact h3
    · exact h4.trans e8
theorem d5v_at (hs : 0 ≤ s ∧ s < g 7) : d5v g v W s = sumsV ((d4 g v W).2.1 s) ((d4 g v W).2.2 2 s) ((d4 g v W).2.2 8 s) ((d4 g v W).2.2 9 s) := by
  funext w
  unfold d5v smTo
  rw [if_pos hs]
theorem does_BV (hG : BG g) (hB : ∀ s, 0 ≤ s → s < g 7 → BV (v s)) (hs : 0 ≤ s ∧ s < g 7) : BV ((d4 g v W).2.1 s) ∧ BV (d5v g v W s) ∧ (0 ≤ (d4 g v W).2.2 8 s ∧ (d4 g v W).2.2 8 s ≤ 20) := by
  have hBw := BV_wake (hB s hs.1 hs.2)
  have hc := cntV_bd hBw
  have hd := dueV_bd (x := wantedV g (wakeV (v s))) hBw
  have hx := wantedV_bd (g := g) hBw
  obtain ⟨wm, gt, h1, h2, h3, h4⟩ := d4_at (W := W) hG hB hs
  have hB3 : BV (d3v g v W s) := by rw [d3v_at hs]; exact BV_give hBw (by omega)
  have hc3 := cntV_bd hB3
  have hB4 : BV ((d4 g v W).2.1 s) := by rw [h3]; exact BV_get hB3 h1 hG.2.1 (by omega)
  obtain ⟨w2, -, -, -, w9⟩ := d4_W (W := W) hG hB hs
  refine ⟨hB4, ?_, by omega⟩
  rw [d5v_at hs, w2, w9, h4]
  exact BV_sums hB4 hx (by omega) (by omega)
theorem does_BG (hG : BG g) (h6 : g 6 < 100000) (hB : ∀ s, 0 ≤ s → s < g 7 → BV (v s)) : BG (doesX g v W).1 ∧ (∀ k, k ≠ 5 → k ≠ 6 → (doesX g v W).1 k = g k) ∧ (doesX g v W).1 6 = g 6 + 1 := by
  obtain ⟨⟨B, hO⟩, -, k1, -, -⟩ := d4_ok (W := W) hG hB
  have ek : ∀ k, k ≠ 5 → k ≠ 6 → (doesX g v W).1 k = g k := by
    intro k h5 h6
    show upg (d5g g v W) 6 (d5g g v W 6 + 1) k = g k
    rw [upg_ne h6]
    unfold d5g
    rw [upg_ne h5, k1 k h5]
  have e6 : (doesX g v W).1 6 = g 6 + 1 := by
    show upg (d5g g v W) 6 (d5g g v W 6 + 1) 6 = _
    rw [upg_at]
    unfold d5g
    rw [upg_ne (by omega), k1 6 (by omega)]
  have e5 : (doesX g v W).1 5 = min ((d4 g v W).1 5 + g 3) (g 2) := by
    show upg (d5g g v W) 6 (d5g g v W 6 + 1) 5 = _
    rw [upg_ne (by omega)]
    unfold d5g
    rw [upg_at, k1 3 (by omega), k1 2 (by omega)]
  have h5 := hO.2.2.1
  obtain ⟨g0, g1, g2, g3, g4, g5, g6, g7⟩ := hG
  refine ⟨?_, ek, e6⟩
  unfold BG
  rw [ek 0 (by omega) (by omega), ek 1 (by omega) (by omega), ek 2 (by omega) (by omega), ek 3 (by omega) (by omega), ek 4 (by omega) (by omega), ek 7 (by omega) (by omega), e6, e5]
  refine ⟨g0, g1, g2, g3, g4, by omega, by omega, g7⟩
theorem qX5_does (hr : 0 ≤ r ∧ r ≤ 12) (hG : BG g) (hB : ∀ s, 0 ≤ s → s < g 7 → BV (v s)) (h : Q (9, 0) (wk μ r (doesX g v W).1 (doesX g v W).2.1 (doesX g v W).2.2)) : MetP mX5_does [(105, 0), (0, r)] (wk μ r g v W) Q := by
  obtain ⟨⟨B, hO⟩, hOW, k1, k2, k3⟩ := d4_ok (W := W) hG hB
  have h5b := hO.2.2.1
  obtain ⟨g0, g1, g2, g3, g4, g5, g6, g7⟩ := id hG
  have J137 : ∀ x2 x3, OkE mX5_does 137 [(105, 0), (0, r), (0, x2), (0, x3)] [] (wk μ r (d5g g v W) (d5v g v W) (d5W g v W)) Q := by
    intro x2 x3
    refine OkE.go snX5_does [] 100 ?_
    refine qX5_of 6 hr (by omega) ?_
    refine qX5_lays 6 hr (by omega) ?_
    exact h
  have J102 : ∀ x2, OkE mX5_does 102 [(105, 0), (0, r), (0, x2), (0, 0)] [] (wk μ r (d5g g v W) (d4 g v W).2.1 (d4 g v W).2.2) Q := by
    intro x2
    have hl := qX5_does_5 (μ := μ) (g5 := d5g g v W) (v := (d4 g v W).2.1) (W := (d4 g v W).2.2) (n := g 7) (x2 := x2) (Q := Q) hr (by unfold d5g; rw [upg_ne (by omega), k1 7 (by omega)]) g7 (fun s q1 q2 => by
      obtain ⟨b4, -, b8⟩ := does_BV (W := W) hG hB ⟨q1, q2⟩
      obtain ⟨w2, -, -, -, w9⟩ := d4_W (W := W) hG hB ⟨q1, q2⟩
      have hBw := BV_wake (hB s q1 q2)
      have hx := wantedV_bd (g := g) hBw
      have hc := cntV_bd hBw
      have hd := dueV_bd (x := wantedV g (wakeV (v s))) hBw
      have hc4 := cntV_bd b4
      obtain ⟨-, -, -, -, -, -, -, -, -, -, h9, -, -, -, h24, -, h31, -⟩ := b4
      refine ⟨h9, h24, h31, by omega, by rw [w2]; exact hx, by omega, by rw [w9]; omega⟩) (fun x3 => J137 x2 x3) (g 7).toNat 0 (by omega) (by omega)
    rw [smTo_0, smW_0] at hl
    exact hl
  have J97 : ∀ x2 z, z = min ((d4 g v W).1 5 + (d4 g v W).1 3) ((d4 g v W).1 2) → OkE mX5_does 97 [(105, 0), (0, r), (0, x2), (9, 0)] [(0, z), (0, 5), (0, r), (105, 0)] (wk μ r (d4 g v W).1 (d4 g v W).2.1 (d4 g v W).2.2) Q := by
    intro x2 z hz
    subst hz
    refine OkE.go snX5_does [102] 100 ?_
    refine qX5_lays 5 hr (by omega) ?_
    exact J102 x2
  have e3 := k1 3 (by omega)
  have e2 := k1 2 (by omega)
  have J55 : ∀ x2, OkE mX5_does 55 [(105, 0), (0, r), (0, x2), (9, 0)] [] (wk μ r g (d3v g v W) (d3W g v W)) Q := by
    intro x2
    refine OkE.go snX5_does [97] 100 ?_
    refine qX5_gets hr hG (d4_pre hB) ?_
    refine qX5_of (g := (d4 g v W).1) 5 hr (by omega) ?_
    refine qX5_of (g := (d4 g v W).1) 3 hr (by omega) ?_
    refine qX5_of (g := (d4 g v W).1) 2 hr (by omega) ?_
    refine ⟨by omega, by omega, fun q => ?_, fun q => ?_⟩
    · exact J97 _ _ (by omega)
    refine qX5_of (g := (d4 g v W).1) 2 hr (by omega) ?_
    exact J97 _ _ (by omega)
  have h2 := qX5_does_2 (μ := μ) (t3 := 9) (x3 := 0) hr hG hB J55 (g 7).toNat 0 (by omega) (by omega)
  rw [givTo_0, givW_0] at h2
  have h1 := qX5_does_1 (μ := μ) (t3 := 9) (x3 := 0) hr hG hB h2 (g 7).toNat 0 (by omega) (by omega)
  rw [weighTo_0] at h1
  refine MetP.go snX5_does [7] 100 rfl rfl rfl rfl (fun _ => ?_)
  refine qX5_starts hr g7 ?_
  exact h1
end M15
