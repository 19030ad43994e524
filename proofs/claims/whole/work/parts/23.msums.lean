/-! step 5: sums, shifts -/
def st1 (u : Int → Int) (x got gave : Int) : Int → Int := upg (upg (upg (upg u 32 (u 32 + cntV u)) 33 (u 33 + max (x - u 10) 0)) 34 (u 34 + (if (0 < got ∧ u 31 < 0) ∨ (0 < gave ∧ 0 < u 31) then 1 else 0))) 31 (if 0 < got then 1 else if 0 < gave then -1 else u 31)
def mv3 (u : Int → Int) (k x : Int) : Int → Int := upg (upg (upg u (k + 2) (u (k + 1))) (k + 1) (u k)) k x
def shWk (u : Int → Int) (k : Int) : Int → Int := fun w => if 18 + k < w ∧ w ≤ 23 then u (w - 1) else u w
def shW (u : Int → Int) (x : Int) : Int → Int := upg (shWk u 0) 18 x
def mwV (u : Int → Int) : Int → Int := upg u 24 (u 24 + (if u 24 < 6 then 1 else 0))
def shPm (u : Int → Int) (m : Int) : Int → Int := fun w => if 38 ≤ w ∧ w < 98 ∧ (w - 35) / 21 < m ∧ 3 ≤ (w - 35) % 21 then u (w - 1) else u w
def shPk (u : Int → Int) (m k : Int) : Int → Int := fun w => if 38 + 21 * m + k < w ∧ w ≤ 55 + 21 * m then u (w - 1) else shPm u m w
def shSk (u : Int → Int) (k : Int) : Int → Int := fun w => if 11 ≤ w ∧ w < 11 + k then u (w + 1) else u w
def shS (u : Int → Int) : Int → Int := upg (shSk u 6) 17 0
def sumsV (u : Int → Int) (x got gave : Int) : Int → Int := shS (shPm (mwV (shW (mv3 (mv3 (st1 u x got gave) 25 got) 28 gave) x)) (u 9))
section M10
variable {μ : Mem} {r s m : Int} {g u : Int → Int} {v W : Mem} {Q : PV → Mem → Prop}
theorem rd_u {c i : Int} (w : Int) (hc : c = 1) (hi : i = 400 * r + 8 + 98 * s + w) (hb : 0 ≤ s ∧ s < 4 ∧ 0 ≤ w ∧ w < 98) : wk μ r g (setS v s u) W c i = u w := (rd_v s w hc hi hb).trans (congrFun (setS_at v s u) w)
theorem wr_u {c i x : Int} (w : Int) (hc : c = 1) (hi : i = 400 * r + 8 + 98 * s + w) (hb : 0 ≤ s ∧ s < 4 ∧ 0 ≤ w ∧ w < 98) : upm (wk μ r g (setS v s u) W) c i x = wk μ r g (setS v s (upg u w x)) W := (wr_v s w hc hi hb).trans (congrArg (fun q => wk μ r g q W) (setS_upm v s u w x))
theorem qX5_countOf_u (hr : 0 ≤ r ∧ r ≤ 12) (hs : 0 ≤ s ∧ s < 4) (h : Q (0, cntV u) (wk μ r g (setS v s u) W)) : MetP mX5_countOf [(105, 0), (0, r), (0, s)] (wk μ r g (setS v s u) W) Q := by
  refine qX5_countOf hr hs ?_
  rw [setS_at]
  exact h
theorem upg_at (u : Int → Int) (k x : Int) : upg u k x k = x := by unfold upg; rw [if_pos rfl]
theorem upg_ne {u : Int → Int} {k x j : Int} (h : j ≠ k) : upg u k x j = u j := by unfold upg; rw [if_neg h]
theorem qX5_moves {k x : Int} (hr : 0 ≤ r ∧ r ≤ 12) (hs : 0 ≤ s ∧ s < 4) (hk : 0 ≤ k ∧ k ≤ 90) (h : Q (9, 0) (wk μ r g (setS v s (mv3 u k x)) W)) : MetP mX5_moves [(105, 0), (0, r), (0, s), (0, k), (0, x)] (wk μ r g (setS v s u) W) Q := by
  refine MetP.go snX5_moves [] 100 rfl rfl rfl rfl (fun _ => ?_)
  refine qX5_at ?_
  refine qX5_at ?_
  refine ⟨by omega, fun x1 f1 => ?_⟩
  obtain rfl := f1.trans (rd_u (k + 1) rfl (by omega) (by omega))
  refine ⟨by omega, fun ν d1 => ?_⟩
  obtain rfl := d1.trans (wr_u (k + 2) rfl (by omega) (by omega))
  refine qX5_at ?_
  refine qX5_at ?_
  refine ⟨by omega, fun x1 f1 => ?_⟩
  obtain rfl := f1.trans ((rd_u k rfl (by omega) (by omega)).trans (upg_ne (by omega)))
  refine ⟨by omega, fun ν d1 => ?_⟩
  obtain rfl := d1.trans (wr_u (k + 1) rfl (by omega) (by omega))
  refine qX5_at ?_
  refine ⟨by omega, fun ν d1 => ?_⟩
  obtain rfl := d1.trans (wr_u k rfl (by omega) (by omega))
  exact h
theorem shSk_succ {k : Int} (hk : 0 ≤ k ∧ k < 6) : upg (shSk u k) (11 + k) (u (11 + k + 1)) = shSk u (k + 1) := by
  funext w
  unfold upg shSk
  by_cases h1 : w = 11 + k
  · rw [if_pos h1, if_pos (show 11 ≤ w ∧ w < 11 + (k + 1) by omega), h1]
  · rw [if_neg h1]
    by_cases h2 : 11 ≤ w ∧ w < 11 + k
    · rw [if_pos h2, if_pos (show 11 ≤ w ∧ w < 11 + (k + 1) by omega)]
    · rw [if_neg h2, if_neg (show ¬ (11 ≤ w ∧ w < 11 + (k + 1)) by omega)]
theorem qX5_sums_S {l3 l4 x6 : Int} {t6 : Nat} (hr : 0 ≤ r ∧ r ≤ 12) (hs : 0 ≤ s ∧ s < 4) (h : Q (9, 0) (wk μ r g (setS v s (shS u)) W)) : ∀ (d : Nat) (k : Int), 0 ≤ k → k + d = 6 → OkE mX5_sums 400 [(105, 0), (0, r), (0, s), (0, l3), (0, l4), (0, k), (t6, x6)] [] (wk μ r g (setS v s (shSk u k)) W) Q
  | 0, k, h0, hd => by
    refine OkE.go snX5_sums [400] 100 ?_
    refine ⟨by omega, by omega, fun _ => ?_, fun q => absurd q (by omega)⟩
    refine qX5_at ?_
    refine ⟨by omega, fun ν d1 => ?_⟩
    obtain rfl := d1.trans (wr_u 17 rfl (by omega) (by omega))
    rw [show k = 6 by omega]
    exact h
  | d + 1, k, h0, hd => by
    have ih := qX5_sums_S (l3 := l3) (l4 := l4) (x6 := x6) (t6 := t6) hr hs h d (k + 1) (by omega) (by omega)
    rw [← shSk_succ (by omega)] at ih
    refine OkE.go snX5_sums [400] 100 ?_
    refine ⟨by omega, by omega, fun q => absurd q (by omega), fun _ => ?_⟩
    refine qX5_at ?_
    refine qX5_at ?_
    refine ⟨by omega, fun x1 f1 => ?_⟩
    obtain rfl : x1 = u (11 + k + 1) := f1.trans ((rd_u (11 + k + 1) rfl (by omega) (by omega)).trans (by unfold shSk; rw [if_neg (by omega)]))
    refine ⟨by omega, fun ν d1 => ?_⟩
    obtain rfl := d1.trans (wr_u (11 + k) rfl (by omega) (by omega))
    exact ih
theorem shSk_0 : shSk u 0 = u := by
  funext w
  unfold shSk
  rw [if_neg (by omega)]
theorem shPm_0 : shPm u 0 = u := by
  funext w
  unfold shPm
  rw [if_neg (by omega)]
theorem shPk_17 {m : Int} : shPk u m 17 = shPm u m := by
  funext w
  unfold shPk
  rw [if_neg (by omega)]
theorem shPk_rd {m k w : Int} (hm : 0 ≤ m) (hw : 37 + 21 * m ≤ w ∧ w ≤ 38 + 21 * m + k) : shPk u m k w = u w := by
  unfold shPk shPm
  rw [if_neg (by omega), if_neg (by omega)]
theorem shPk_pred {m k : Int} (hm : 0 ≤ m ∧ m < 3) (hk : 1 ≤ k ∧ k ≤ 17) : upg (shPk u m k) (38 + 21 * m + k) (u (38 + 21 * m + k - 1)) = shPk u m (k - 1) := by
  funext w
  unfold upg shPk
  by_cases h1 : w = 38 + 21 * m + k
  · rw [if_pos h1, if_pos (show 38 + 21 * m + (k - 1) < w ∧ w ≤ 55 + 21 * m by omega), h1]
  · rw [if_neg h1]
    by_cases h2 : 38 + 21 * m + k < w ∧ w ≤ 55 + 21 * m
    · rw [if_pos h2, if_pos (show 38 + 21 * m + (k - 1) < w ∧ w ≤ 55 + 21 * m by omega)]
    · rw [if_neg h2, if_neg (show ¬ (38 + 21 * m + (k - 1) < w ∧ w ≤ 55 + 21 * m) by omega)]
theorem shPm_succ {m : Int} (hm : 0 ≤ m ∧ m < 3) : upg (shPk u m 0) (38 + 21 * m) (u (37 + 21 * m)) = shPm u (m + 1) := by
  funext w
  unfold upg shPk shPm
  by_cases h1 : w = 38 + 21 * m
  · rw [if_pos h1, if_pos (show 38 ≤ w ∧ w < 98 ∧ (w - 35) / 21 < m + 1 ∧ 3 ≤ (w - 35) % 21 by omega), h1]
    congr 1; omega
  · rw [if_neg h1]
    by_cases h2 : 38 + 21 * m + 0 < w ∧ w ≤ 55 + 21 * m
    · rw [if_pos h2, if_pos (show 38 ≤ w ∧ w < 98 ∧ (w - 35) / 21 < m + 1 ∧ 3 ≤ (w - 35) % 21 by omega)]
    · rw [if_neg h2]
      by_cases h3 : 38 ≤ w ∧ w < 98 ∧ (w - 35) / 21 < m ∧ 3 ≤ (w - 35) % 21
      · rw [if_pos h3, if_pos (show 38 ≤ w ∧ w < 98 ∧ (w - 35) / 21 < m + 1 ∧ 3 ≤ (w - 35) % 21 by omega)]
      · rw [if_neg h3, if_neg (show ¬ (38 ≤ w ∧ w < 98 ∧ (w - 35) / 21 < m + 1 ∧ 3 ≤ (w - 35) % 21) by omega)]
/-- the inner shift of a measure's past -/
theorem qX5_sums_Pi {l3 l4 : Int} (hr : 0 ≤ r ∧ r ≤ 12) (hs : 0 ≤ s ∧ s < 4) (hm : 0 ≤ m ∧ m < 3) (h : OkE mX5_sums 299 [(105, 0), (0, r), (0, s), (0, l3), (0, l4), (0, m + 1), (0, 0)] [] (wk μ r g (setS v s (shPm u (m + 1))) W) Q) : ∀ (d : Nat) (k : Int), k = d → k ≤ 17 → OkE mX5_sums 320 [(105, 0), (0, r), (0, s), (0, l3), (0, l4), (0, m), (0, k)] [] (wk μ r g (setS v s (shPk u m k)) W) Q
  | 0, k, hd, h17 => by
    have e : k = 0 := by omega
    subst e
    refine OkE.go snX5_sums [320, 299] 100 ?_
    refine ⟨by omega, fun _ => ?_, fun q => absurd q (by omega)⟩
    refine qX5_atMeasure ?_
    refine qX5_atMeasure ?_
    refine ⟨by omega, fun x1 f1 => ?_⟩
    obtain rfl : x1 = u (37 + 21 * m) := f1.trans ((rd_u (37 + 21 * m) rfl (by omega) (by omega)).trans (shPk_rd hm.1 (by omega)))
    refine ⟨by omega, fun ν d1 => ?_⟩
    obtain rfl := d1.trans (wr_u (38 + 21 * m) rfl (by omega) (by omega))
    rw [shPm_succ hm]
    exact h
  | d + 1, k, hd, h17 => by
    have ih := qX5_sums_Pi hr hs hm h d (k - 1) (by omega) (by omega)
    rw [← shPk_pred hm (by omega), show k - 1 = k + -1 by omega] at ih
    refine OkE.go snX5_sums [320] 100 ?_
    refine ⟨by omega, fun q => absurd q (by omega), fun _ => ?_⟩
    refine qX5_atMeasure ?_
    refine qX5_atMeasure ?_
    refine ⟨by omega, fun x1 f1 => ?_⟩
    obtain rfl : x1 = u (38 + 21 * m + k - 1) := f1.trans ((rd_u (38 + 21 * m + k - 1) rfl (by omega) (by omega)).trans (shPk_rd hm.1 (by omega)))
    refine ⟨by omega, fun ν d1 => ?_⟩
    obtain rfl := d1.trans (wr_u (38 + 21 * m + k) rfl (by omega) (by omega))
    exact ih
theorem qX5_sums_P {l3 l4 : Int} (hr : 0 ≤ r ∧ r ≤ 12) (hs : 0 ≤ s ∧ s < 4) (h9 : 0 ≤ u 9 ∧ u 9 ≤ 3) (h : Q (9, 0) (wk μ r g (setS v s (shS (shPm u (u 9)))) W)) : ∀ (d : Nat) (m : Int) (t6 : Nat) (x6 : Int), 0 ≤ m → m + d = u 9 → OkE mX5_sums 299 [(105, 0), (0, r), (0, s), (0, l3), (0, l4), (0, m), (t6, x6)] [] (wk μ r g (setS v s (shPm u m)) W) Q
  | 0, m, t6, x6, h0, hd => by
    have hl := qX5_sums_S (μ := μ) (g := g) (v := v) (W := W) (l3 := l3) (l4 := l4) (x6 := x6) (t6 := t6) hr hs h 6 0 (by omega) (by omega)
    rw [shSk_0] at hl
    refine OkE.go snX5_sums [299, 400] 100 ?_
    refine qX5_at ?_
    refine ⟨by omega, fun x1 f1 => ?_⟩
    obtain rfl : x1 = u 9 := f1.trans ((rd_u 9 rfl (by omega) (by omega)).trans (by unfold shPm; rw [if_neg (by omega)]))
    refine ⟨by omega, by omega, fun _ => ?_, fun q => absurd q (by omega)⟩
    rw [show m = u 9 by omega]
    exact hl
  | d + 1, m, t6, x6, h0, hd => by
    have ih := qX5_sums_P (l3 := l3) (l4 := l4) hr hs h9 h d (m + 1) 0 0 (by omega) (by omega)
    have hl := qX5_sums_Pi hr hs (by omega) ih 17 17 rfl (by omega)
    rw [shPk_17] at hl
    refine OkE.go snX5_sums [299, 320] 100 ?_
    refine qX5_at ?_
    refine ⟨by omega, fun x1 f1 => ?_⟩
    obtain rfl : x1 = u 9 := f1.trans ((rd_u 9 rfl (by omega) (by omega)).trans (by unfold shPm; rw [if_neg (by omega)]))
    refine ⟨by omega, by omega, fun q => absurd q (by omega), fun _ => ?_⟩
    exact hl
theorem shWk_rd {k w : Int} (hw : w ≤ 18 + k) : shWk u k w = u w := by
  unfold shWk
  rw [if_neg (by omega)]
theorem shWk_5 : shWk u 5 = u := by
  funext w
  unfold shWk
  rw [if_neg (by omega)]
theorem shWk_pred {k : Int} (hk : 1 ≤ k ∧ k ≤ 5) : upg (shWk u k) (18 + k) (u (18 + k - 1)) = shWk u (k - 1) := by
  funext w
  unfold upg shWk
  by_cases h1 : w = 18 + k
  · rw [if_pos h1, if_pos (show 18 + (k - 1) < w ∧ w ≤ 23 by omega), h1]
  · rw [if_neg h1]
    by_cases h2 : 18 + k < w ∧ w ≤ 23
    · rw [if_pos h2, if_pos (show 18 + (k - 1) < w ∧ w ≤ 23 by omega)]
    · rw [if_neg h2, if_neg (show ¬ (18 + (k - 1) < w ∧ w ≤ 23) by omega)]
theorem mwV_9 : mwV (shW u m) 9 = u 9 := by
  unfold mwV
  rw [upg_ne (by omega)]
  unfold shW
  rw [upg_ne (by omega), shWk_rd (by omega)]
theorem qX5_sums_W {l3 l4 x : Int} (hr : 0 ≤ r ∧ r ≤ 12) (hs : 0 ≤ s ∧ s < 4) (h9 : 0 ≤ u 9 ∧ u 9 ≤ 3) (h24 : 0 ≤ u 24 ∧ u 24 ≤ 6) (hW : W 2 s = x) (h : Q (9, 0) (wk μ r g (setS v s (shS (shPm (mwV (shW u x)) (u 9)))) W)) : ∀ (d : Nat) (k : Int), k = d → k ≤ 5 → OkE mX5_sums 198 [(105, 0), (0, r), (0, s), (0, l3), (0, l4), (0, k), (9, 0)] [] (wk μ r g (setS v s (shWk u k)) W) Q
  | 0, k, hd, h5 => by
    have e : k = 0 := by omega
    subst e
    have e24 : shW u x 24 = u 24 := by
      unfold shW
      rw [upg_ne (by omega)]
      unfold shWk
      rw [if_neg (by omega)]
    have hl : OkE mX5_sums 299 [(105, 0), (0, r), (0, s), (0, l3), (0, l4), (0, 0), (9, 0)] [] (wk μ r g (setS v s (shPm (mwV (shW u x)) 0)) W) Q :=
      qX5_sums_P hr hs (by rw [mwV_9]; exact h9) (by rw [mwV_9]; exact h) (u 9).toNat 0 9 0 (by omega) (by rw [mwV_9]; omega)
    rw [shPm_0] at hl
    have J : ∀ z, z = (if u 24 < 6 then 1 else 0) → OkE mX5_sums 294 [(105, 0), (0, r), (0, s), (0, l3), (0, l4), (0, 0), (9, 0)] [(0, z), (0, u 24), (0, 400 * r + 8 + 98 * s + 24), (6300, 0 + 1)] (wk μ r g (setS v s (shW u x)) W) Q := by
      intro z hz
      refine OkE.go snX5_sums [299] 100 ?_
      refine ⟨by omega, fun ν d1 => ?_⟩
      obtain rfl := d1.trans (wr_u 24 rfl (by omega) (by omega))
      have e2 : upg (shW u x) 24 (u 24 + z) = mwV (shW u x) := by
        unfold mwV
        rw [e24, hz]
      rw [e2]
      exact hl
    refine OkE.go snX5_sums [198, 294] 100 ?_
    refine ⟨by omega, fun _ => ?_, fun q => absurd q (by omega)⟩
    refine qX5_at ?_
    refine ⟨by omega, fun x1 f1 => ?_⟩
    obtain rfl := f1.trans ((rd_W (by omega)).trans hW)
    refine ⟨by omega, fun ν d1 => ?_⟩
    obtain rfl := d1.trans (wr_u 18 rfl (by omega) (by omega))
    refine qX5_at ?_
    refine ⟨by omega, fun x2 f2 => ?_⟩
    obtain rfl : x2 = u 24 := f2.trans ((rd_u 24 rfl (by omega) (by omega)).trans e24)
    refine qX5_at ?_
    refine ⟨by omega, fun x2 f2 => ?_⟩
    obtain rfl : x2 = u 24 := f2.trans ((rd_u 24 rfl (by omega) (by omega)).trans e24)
    refine ⟨by omega, by omega, fun q => ?_, fun q => ?_⟩
    · exact J _ (by rw [if_neg (by omega)])
    · exact J _ (by rw [if_pos (by omega)])
  | d + 1, k, hd, h5 => by
    have ih := qX5_sums_W (l3 := l3) (l4 := l4) hr hs h9 h24 hW h d (k - 1) (by omega) (by omega)
    rw [← shWk_pred (by omega), show k - 1 = k + -1 by omega] at ih
    refine OkE.go snX5_sums [198] 100 ?_
    refine ⟨by omega, fun q => absurd q (by omega), fun _ => ?_⟩
    refine qX5_at ?_
    refine qX5_at ?_
    refine ⟨by omega, fun x1 f1 => ?_⟩
    obtain rfl : x1 = u (18 + k - 1) := f1.trans ((rd_u (18 + k - 1) rfl (by omega) (by omega)).trans (shWk_rd (by omega)))
    refine ⟨by omega, fun ν d1 => ?_⟩
    obtain rfl := d1.trans (wr_u (18 + k) rfl (by omega) (by omega))
    exact ih
end M10
