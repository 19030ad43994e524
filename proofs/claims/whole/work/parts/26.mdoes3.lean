/-- what the giving out keeps, service by service -/
def OKW (x : GS) : Prop := ∀ s, 0 ≤ s → s < x.1 7 → 0 ≤ x.2.2 8 s ∧ x.2.2 8 s ≤ 20
theorem getV_ne {u : Int → Int} {warm got cold w : Int} (hc : 1 ≤ cold ∧ cold ≤ 6) (hw : w < 12 ∨ 17 < w) : getV u warm got cold w = u w := by
  unfold getV
  rw [upg_ne (by omega), upg_ne (by omega)]
theorem gone_v {x : GS} {s s' w : Int} (hc : 1 ≤ x.1 1 ∧ x.1 1 ≤ 6) (hw : w < 12 ∨ 17 < w) : (gone x s).2.1 s' w = x.2.1 s' w := by
  show setS x.2.1 s (getV (x.2.1 s) (warmV x s) (gotV x s) (x.1 1)) s' w = _
  unfold setS
  split
  · rename_i h; rw [getV_ne hc hw, h]
  · rfl
theorem inN_v {x : GS} {t : Int} (hc : 1 ≤ x.1 1 ∧ x.1 1 ≤ 6) : ∀ (k : Nat) (s' w : Int), (w < 12 ∨ 17 < w) → (inN t k x).2.1 s' w = x.2.1 s' w
  | 0, s', w, hw => rfl
  | k + 1, s', w, hw => by
    have ih := inN_v (t := t) hc k s' w hw
    have hk := (inN_keep t k x).1 1 (by omega)
    unfold inN
    split
    · rw [gone_v (by rw [hk]; exact hc) hw, ih]
    · exact ih
theorem outN_v {x : GS} {n : Nat} (hc : 1 ≤ x.1 1 ∧ x.1 1 ≤ 6) : ∀ (t : Nat) (s' w : Int), (w < 12 ∨ 17 < w) → (outN n t x).2.1 s' w = x.2.1 s' w
  | 0, s', w, hw => rfl
  | t + 1, s', w, hw => by
    have ih := outN_v (n := n) hc t s' w hw
    have hk := (outN_keep n t x).1 1 (by omega)
    show (inN (t : Int) n (outN n t x)).2.1 s' w = _
    rw [inN_v (by rw [hk]; exact hc) n s' w hw, ih]
theorem inN_w {x : GS} {B t : Int} (hO : OKG x B) (h : OKW x) : ∀ k : Nat, (k : Int) ≤ x.1 7 → OKW (inN t k x)
  | 0, _ => h
  | k + 1, hk => by
    have ih := inN_w (t := t) hO h k (by omega)
    have hok := inN_ok (t := t) hO k (by omega)
    have h7 := (inN_keep t k x).1 7 (by omega)
    unfold inN
    split
    · intro s q1 q2
      have hb := gotV_bd hok (s := (k : Int)) ⟨by omega, by rw [h7]; omega⟩
      show 0 ≤ upm (inN t k x).2.2 8 (k : Int) (gotV (inN t k x) (k : Int)) 8 s ∧ upm (inN t k x).2.2 8 (k : Int) (gotV (inN t k x) (k : Int)) 8 s ≤ 20
      by_cases hs : s = (k : Int)
      · subst hs
        rw [upm_at]
        omega
      · rw [upm_ne (by omega)]
        exact ih s q1 (by rw [(gone_keep _ _).1 7 (by omega)] at q2; exact q2)
    · exact ih
theorem outN_w {x : GS} {B : Int} {n : Nat} (hO : OKG x B) (hn : (n : Int) = x.1 7) (h : OKW x) : ∀ t : Nat, OKW (outN n t x)
  | 0 => h
  | t + 1 => by
    have ih := outN_w hO hn h t
    have hok := outN_ok hO hn t
    have h7 := (outN_keep n t x).1 7 (by omega)
    exact inN_w hok ih n (by rw [h7]; omega)
section M13
variable {μ : Mem} {r s m : Int} {g u : Int → Int} {v W : Mem} {Q : PV → Mem → Prop}
theorem d1v_at (hs : 0 ≤ s ∧ s < g 7) : d1v g v s = wakeV (v s) := by
  funext w
  unfold d1v wakeTo
  rw [if_pos hs]
theorem d2W_at (hs : 0 ≤ s ∧ s < g 7) : d2W g v W 2 s = wantedV g (wakeV (v s)) ∧ d2W g v W 3 s = steadyV (wantedV g (wakeV (v s))) (wakeV (v s)) ∧ d2W g v W 4 s = boundV (wantedV g (wakeV (v s))) (wakeV (v s)) ∧ d2W g v W 5 s = dueV (wantedV g (wakeV (v s))) (wakeV (v s)) := by
  unfold d2W weighTo
  rw [d1v_at hs]
  refine ⟨?_, ?_, ?_, ?_⟩ <;> simp [hs]
theorem d3v_at (hs : 0 ≤ s ∧ s < g 7) : d3v g v W s = giveV (wakeV (v s)) (max (cntV (wakeV (v s)) - dueV (wantedV g (wakeV (v s))) (wakeV (v s))) 0) := by
  funext w
  unfold d3v givTo gvX
  rw [if_pos hs, d1v_at hs, (d2W_at hs).2.2.2]
theorem d3W_at (hs : 0 ≤ s ∧ s < g 7) : d3W g v W 9 s = max (cntV (wakeV (v s)) - dueV (wantedV g (wakeV (v s))) (wakeV (v s))) 0 := by
  unfold d3W givW gvX
  rw [if_pos ⟨rfl, hs⟩, d1v_at hs, (d2W_at hs).2.2.2]
theorem d3W_ne {c : Int} (hc : c ≠ 9) : d3W g v W c = d2W g v W c := by
  funext s
  unfold d3W givW
  rw [if_neg (by omega)]
/-- the state that step 4 begins with, its bounds -/
theorem d4_pre (hB : ∀ s, 0 ≤ s → s < g 7 → BV (v s)) : ∀ k, 0 ≤ k → k < g 7 → (0 ≤ cntV (d3v g v W k) ∧ cntV (d3v g v W k) ≤ 20) ∧ (0 ≤ d3v g v W k 2 ∧ d3v g v W k 2 ≤ 9) ∧ (0 ≤ d3W g v W 5 k ∧ d3W g v W 5 k ≤ 20) := by
  intro k q1 q2
  have hBw := BV_wake (hB k q1 q2)
  have hc := cntV_bd hBw
  have hd := dueV_bd (x := wantedV g (wakeV (v k))) hBw
  rw [d3v_at ⟨q1, q2⟩, cnt_giveV, giveV_ne (Or.inl (by omega)), d3W_ne (by omega), (d2W_at ⟨q1, q2⟩).2.2.2]
  refine ⟨by omega, ?_, by omega⟩
  obtain ⟨-, -, -, h2, -⟩ := hBw
  exact h2
theorem d4_ok (hG : BG g) (hB : ∀ s, 0 ≤ s → s < g 7 → BV (v s)) : (∃ B, OKG (d4 g v W) B) ∧ OKW (d4 g v W) ∧ (∀ j, j ≠ 5 → (d4 g v W).1 j = g j) ∧ (∀ c, c ≠ 8 → (d4 g v W).2.2 c = getsW (d3v g v W) (g 7) (d3W g v W) c) ∧ (∀ s w, (w < 12 ∨ 17 < w) → (d4 g v W).2.1 s w = d3v g v W s w) := by
  obtain ⟨g0, g1, -, -, -, g5, -, g7⟩ := hG
  have hp := d4_pre (W := W) hB
  have hO : OKG (g, d3v g v W, getsW (d3v g v W) (g 7) (d3W g v W)) 20 := by
    refine ⟨g1, g0, g5, g7, fun k q1 q2 => ?_⟩
    obtain ⟨b1, b2, b3⟩ := hp k q1 q2
    dsimp only at q2 ⊢
    rw [getsW_5, getsW_6 ⟨q1, q2⟩]
    exact ⟨b3, b1, b1⟩
  have hW : OKW (g, d3v g v W, getsW (d3v g v W) (g 7) (d3W g v W)) := by
    intro s q1 q2
    dsimp only at q2 ⊢
    have e : getsW (d3v g v W) (g 7) (d3W g v W) 8 s = 0 := by
      unfold getsW
      rw [plTo_ne (by omega)]
      unfold cntW
      rw [if_neg (by omega), if_pos (by omega)]
    rw [e]
    omega
  have hn : (((g 7).toNat : Nat) : Int) = (g, d3v g v W, getsW (d3v g v W) (g 7) (d3W g v W)).1 7 := by
    show ((g 7).toNat : Int) = g 7
    omega
  obtain ⟨k1, k2⟩ := outN_keep (g 7).toNat (g 7).toNat (g, d3v g v W, getsW (d3v g v W) (g 7) (d3W g v W))
  exact ⟨⟨_, outN_ok hO hn _⟩, outN_w hO hn hW _, k1, k2, fun s w hw => outN_v g1 _ s w hw⟩
theorem getsW_ne {n c : Int} (hc : c ≠ 6 ∧ c ≠ 7 ∧ c ≠ 8) : getsW v n W c = W c := by
  unfold getsW
  rw [plTo_ne hc.2.1]
  funext j
  unfold cntW
  rw [if_neg (by omega), if_neg (by omega)]
theorem d4_W (hG : BG g) (hB : ∀ s, 0 ≤ s → s < g 7 → BV (v s)) (hs : 0 ≤ s ∧ s < g 7) : (d4 g v W).2.2 2 s = wantedV g (wakeV (v s)) ∧ (d4 g v W).2.2 3 s = steadyV (wantedV g (wakeV (v s))) (wakeV (v s)) ∧ (d4 g v W).2.2 4 s = boundV (wantedV g (wakeV (v s))) (wakeV (v s)) ∧ (d4 g v W).2.2 5 s = dueV (wantedV g (wakeV (v s))) (wakeV (v s)) ∧ (d4 g v W).2.2 9 s = max (cntV (wakeV (v s)) - dueV (wantedV g (wakeV (v s))) (wakeV (v s))) 0 := by
  obtain ⟨-, -, -, k2, -⟩ := d4_ok (W := W) hG hB
  have hd := d2W_at (v := v) (W := W) hs
  rw [k2 2 (by omega), k2 3 (by omega), k2 4 (by omega), k2 5 (by omega), k2 9 (by omega), getsW_ne (by omega), getsW_ne (by omega), getsW_ne (by omega), getsW_ne (by omega), getsW_ne (by omega), d3W_ne (by omega), d3W_ne (by omega), d3W_ne (by omega), d3W_ne (by omega), d3W_at hs]
  exact ⟨hd.1, hd.2.1, hd.2.2.1, hd.2.2.2, rfl⟩
theorem qX5_does_1 {t3 : Nat} {x3 : Int} (hr : 0 ≤ r ∧ r ≤ 12) (hG : BG g) (hB : ∀ s, 0 ≤ s → s < g 7 → BV (v s)) (h : OkE mX5_does 32 [(105, 0), (0, r), (0, 0), (t3, x3)] [] (wk μ r g (d1v g v) (d2W g v W)) Q) : ∀ (d : Nat) (s : Int), 0 ≤ s → s + d = g 7 → OkE mX5_does 7 [(105, 0), (0, r), (0, s), (t3, x3)] [] (wk μ r g (d1v g v) (weighTo g (d1v g v) W s)) Q
  | 0, s, h0, hd => by
    obtain ⟨-, -, -, -, -, -, -, g7⟩ := id hG
    refine OkE.go snX5_does [7, 32] 100 ?_
    refine qX5_of 7 hr (by omega) ?_
    refine ⟨by omega, by omega, fun _ => ?_, fun q => absurd q (by omega)⟩
    rw [show s = g 7 by omega]
    exact h
  | d + 1, s, h0, hd => by
    obtain ⟨-, -, -, -, -, -, -, g7⟩ := id hG
    have ih := qX5_does_1 hr hG hB h d (s + 1) (by omega) (by omega)
    rw [← weighTo_succ h0] at ih
    refine OkE.go snX5_does [7, 32] 100 ?_
    refine qX5_of 7 hr (by omega) ?_
    refine ⟨by omega, by omega, fun q => absurd q (by omega), fun _ => ?_⟩
    refine qX5_weighs hr (by omega) hG (by rw [d1v_at ⟨h0, by omega⟩]; exact BV_wake (hB s h0 (by omega))) ?_
    exact ih
theorem qX5_does_2 {t3 : Nat} {x3 : Int} (hr : 0 ≤ r ∧ r ≤ 12) (hG : BG g) (hB : ∀ s, 0 ≤ s → s < g 7 → BV (v s)) (h : ∀ x2, OkE mX5_does 55 [(105, 0), (0, r), (0, x2), (t3, x3)] [] (wk μ r g (d3v g v W) (d3W g v W)) Q) : ∀ (d : Nat) (s : Int), 0 ≤ s → s + d = g 7 → OkE mX5_does 32 [(105, 0), (0, r), (0, s), (t3, x3)] [] (wk μ r g (givTo (d1v g v) (d2W g v W) s) (givW (d1v g v) (d2W g v W) s)) Q
  | 0, s, h0, hd => by
    obtain ⟨-, -, -, -, -, -, -, g7⟩ := id hG
    refine OkE.go snX5_does [32, 55] 100 ?_
    refine qX5_of 7 hr (by omega) ?_
    refine ⟨by omega, by omega, fun _ => ?_, fun q => absurd q (by omega)⟩
    rw [show s = g 7 by omega]
    exact h _
  | d + 1, s, h0, hd => by
    obtain ⟨-, -, -, -, -, -, -, g7⟩ := id hG
    have ih := qX5_does_2 hr hG hB h d (s + 1) (by omega) (by omega)
    rw [← givTo_succ h0, ← givW_succ h0] at ih
    have hBw := BV_wake (hB s h0 (by omega))
    have hd5 := (d2W_at (v := v) (W := W) (g := g) (s := s) ⟨h0, by omega⟩).2.2.2
    refine OkE.go snX5_does [32, 55] 100 ?_
    refine qX5_of 7 hr (by omega) ?_
    refine ⟨by omega, by omega, fun q => absurd q (by omega), fun _ => ?_⟩
    have hdue := dueV_bd (x := wantedV g (wakeV (v s))) hBw
    refine qX5_givesUp (dd := d2W g v W 5 s) hr (by omega) (by rw [givTo_at, d1v_at ⟨h0, by omega⟩]; exact hBw) (by rw [hd5]; omega) (by unfold givW; rw [if_neg (by omega)]) ?_
    rw [givTo_at]
    exact ih
end M13
