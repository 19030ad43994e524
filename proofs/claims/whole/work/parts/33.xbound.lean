theorem sumI_tail {f : Int → Int} {a : Int} (ha : 0 ≤ a) : ∀ d : Nat, (∀ k, a ≤ k → k < a + d → f k = 0) → sumI f (a + d) = sumI f a
  | 0, _ => by rw [show a + ((0 : Nat) : Int) = a by omega]
  | d + 1, hf => by
    rw [show a + ((d + 1 : Nat) : Int) = a + d + 1 by omega, sumI_succ f (by omega), sumI_tail ha d (fun k h1 h2 => hf k h1 (by omega)), hf (a + d) (by omega) (by omega)]
    omega
section X4
variable {μ : Mem} {c h R : Int} {g u : Int → Int} {Q : PV → Mem → Prop}
/-- a field of the plan, or this round's move: the row doesn't see it -/
theorem RelS.put {a b x : Int} (hS : RelS μ c R u) (h9 : u 9 ≤ 3) (hR : 0 ≤ R) (hi : (a = c ∧ 12 ≤ b ∧ b ≤ 16) ∨ (a = c + 11 ∧ b = R % 4)) : RelS (upm μ a b x) c R u := by
  obtain ⟨h1, ⟨h2, h2b, h2c⟩, h3, h4, h5, h6, h7, h8, h10, h11⟩ := hS
  refine ⟨fun k p q => ?_, ⟨?_, ?_, ?_⟩, fun k p q => ?_, ?_, fun k p q d => ?_, h6, fun k p q => ?_, ?_, ?_, fun m p q => ?_⟩
  · rw [upm_ne (by omega)]; exact h1 k p q
  · rw [upm_ne (by omega)]; exact h2
  · rw [upm_ne (by omega)]; exact h2b
  · rw [upm_ne (by omega)]; exact h2c
  · rw [upm_ne (by omega)]; exact h3 k p q
  · rw [upm_ne (by omega)]; exact h4
  · rw [upm_ne (by omega)]; exact h5 k p q d
  · obtain ⟨k1, k2, k3⟩ := h7 k p q
    refine ⟨fun hk => ?_, k2, k3⟩
    rw [upm_ne (by omega)]
    exact k1 hk
  · rw [upm_ne (by omega)]; exact h8
  · rw [upm_ne (by omega), upm_ne (by omega), upm_ne (by omega)]; exact h10
  · obtain ⟨a1, a2, a3, a4⟩ := h11 m p q
    rw [upm_ne (by omega), upm_ne (by omega), upm_ne (by omega)]
    refine ⟨a1, a2, a3, fun k p2 q2 t => ?_⟩
    rw [upm_ne (by omega)]
    exact a4 k p2 q2 t
theorem qX2_bounded_loop {x : Int} (hR : 0 ≤ R ∧ R ≤ 100000) (hS : RelS μ c R u) (hB : BV u) (hx : 0 ≤ x ∧ x ≤ 300000) (hst : μ c 13 = steadyV x u) (hq : Q (0, boundV x u) μ) : ∀ (d : Nat) (b : Int) (t5 : Nat) (x5 : Int), 1 ≤ b → b + d = min (u 8) (R + 1) → OkE mX2_bounded 7 [(102, c), (0, R), (0, sumI (fun k => u (25 + k)) (b - 1)), (0, sumI (fun k => u (28 + k)) (b - 1)), (0, b), (t5, x5)] [] μ Q := by
  have hc := cntV_bd hB
  have hsb := steadyV_bd hB hx
  have hB2 := hB
  obtain ⟨b0, b1, -, -, b3, b4, b5, b6, b7, b8, -, -, -, hu, b24, hmv, -⟩ := hB2
  have hS2 := hS
  obtain ⟨hn, ⟨-, hcnt, -⟩, -, -, hw, h24, h7, -⟩ := hS2
  have sb1 := sumI_bd (f := fun k => u (28 + k)) (n := u 8 - 1) (by omega) (fun k q1 q2 => hmv _ (by omega) (by omega))
  have sb2 := sumI_bd (f := fun k => u (25 + k)) (n := u 8 - 1) (by omega) (fun k q1 q2 => hmv _ (by omega) (by omega))
  have hbase : 0 ≤ baseV u ∧ baseV u ≤ 20 := by unfold baseV; omega
  have hmul : 0 ≤ baseV u * u 6 ∧ baseV u * u 6 ≤ 1980 := by
    constructor
    · exact Int.mul_nonneg (by omega) (by omega)
    · have q1 : baseV u * u 6 ≤ 20 * u 6 := Int.mul_le_mul_of_nonneg_right (by omega) (by omega)
      omega
  have hup := upI_bd (a := baseV u * u 6) (b := 100) (by omega) (by omega)
  have hcv : ceilV u = baseV u + max (upI (baseV u * u 6) 100) (u 5) := rfl
  have hfv : floorV u = cntV u + sumI (fun k => u (28 + k)) (u 8 - 1) - u 7 := rfl
  have hbv : baseV u = max (cntV u - sumI (fun k => u (25 + k)) (u 8 - 1)) 0 := rfl
  have fin : ∀ (b : Int) (t5 : Nat) (x5 : Int), b = min (u 8) (R + 1) → OkE mX2_bounded 63 [(102, c), (0, R), (0, sumI (fun k => u (25 + k)) (b - 1)), (0, sumI (fun k => u (28 + k)) (b - 1)), (0, b), (t5, x5)] [] μ Q := by
    intro b t5 x5 hb
    have e1 : sumI (fun k => u (25 + k)) (b - 1) = sumI (fun k => u (25 + k)) (u 8 - 1) := by
      have := sumI_tail (f := fun k => u (25 + k)) (a := b - 1) (by omega) (u 8 - b).toNat (fun k p q => ((h7 k (by omega) (by omega)).2.1 (by omega)).1)
      rw [← this]
      congr 1
      omega
    have e2 : sumI (fun k => u (28 + k)) (b - 1) = sumI (fun k => u (28 + k)) (u 8 - 1) := by
      have := sumI_tail (f := fun k => u (28 + k)) (a := b - 1) (by omega) (u 8 - b).toNat (fun k p q => ((h7 k (by omega) (by omega)).2.1 (by omega)).2)
      rw [← this]
      congr 1
      omega
    rw [e1, e2]
    unfold boundV at hq
    refine OkE.go snX2_bounded [] 100 ?_
    intro x1 f1
    obtain rfl := f1.trans hst
    intro x2 f2
    obtain rfl := f2.trans hcnt
    refine ⟨by omega, by omega, fun q => ?_, fun q => ?_⟩
    · rw [if_neg (by omega)] at hq
      intro x3 f3
      obtain rfl := f3.trans hcnt
      refine ⟨by omega, by omega, ?_⟩
      rw [← hbv]
      refine ⟨by omega, fun x4 f4 => ?_⟩
      obtain rfl := f4.trans (hn 5 (by omega) (by omega))
      refine ⟨by omega, fun x5 f5 => ?_⟩
      obtain rfl := f5.trans (hn 6 (by omega) (by omega))
      refine qX4_cutUp (by omega) (by omega) ?_
      rw [if_neg (by omega)]
      refine ⟨by omega, by omega, ?_⟩
      rw [Int.max_comm]
      intro x6 f6
      obtain rfl := f6.trans hst
      refine ⟨by omega, by omega, ?_⟩
      intro x7 f7
      obtain rfl := f7.trans hcnt
      refine ⟨by omega, by omega, ?_⟩
      have e : max (min (steadyV x u) (ceilV u)) (cntV u) = (if cntV u < steadyV x u then max (min (steadyV x u) (ceilV u)) (cntV u) else cntV u) := by split <;> omega
      rw [← e] at hq
      exact hq
    · rw [if_pos (by omega)] at hq
      intro x3 f3
      obtain rfl := f3.trans hcnt
      refine ⟨by omega, fun x4 f4 => ?_⟩
      obtain rfl := f4.trans (hn 7 (by omega) (by omega))
      intro x6 f6
      obtain rfl := f6.trans hst
      refine ⟨by omega, by omega, ?_⟩
      intro x7 f7
      obtain rfl := f7.trans hcnt
      refine ⟨by omega, by omega, ?_⟩
      exact hq
  intro d
  induction d with
  | zero =>
    intro b t5 x5 hb1 hb
    have h1 := fin b t5 x5 (by omega)
    refine OkE.go snX2_bounded [7, 63] 100 ?_
    refine ⟨by omega, fun x1 f1 => ?_⟩
    obtain rfl := f1.trans (hn 8 (by omega) (by omega))
    refine ⟨by omega, by omega, fun _ => ?_, fun q => ?_⟩
    · exact h1
    refine ⟨by omega, by omega, fun _ => ?_, fun q => absurd q (by omega)⟩
    exact h1
  | succ d ih =>
    intro b t5 x5 hb1 hb
    obtain ⟨m1, m2, m3⟩ := h7 (b - 1) (by omega) (by omega)
    have hm := m1 (by omega)
    rw [show R - 1 - (b - 1) = R - b by omega] at hm
    have v1 := hmv (25 + (b - 1)) (by omega) (by omega)
    have v2 := hmv (28 + (b - 1)) (by omega) (by omega)
    have ih2 := ih (b + 1) 0 (u (25 + (b - 1)) - u (28 + (b - 1))) (by omega) (by omega)
    rw [show b + 1 - 1 = b - 1 + 1 by omega, sumI_succ _ (by omega), sumI_succ _ (by omega)] at ih2
    refine OkE.go snX2_bounded [7, 63] 100 ?_
    refine ⟨by omega, fun x1 f1 => ?_⟩
    obtain rfl := f1.trans (hn 8 (by omega) (by omega))
    refine ⟨by omega, by omega, fun q => absurd q (by omega), fun _ => ?_⟩
    refine ⟨by omega, by omega, fun q => absurd q (by omega), fun _ => ?_⟩
    refine ⟨by omega, by omega, ?_⟩
    refine ⟨by omega, fun x1 f1 => ?_⟩
    obtain rfl := f1.trans hm
    refine ⟨by omega, by omega, ?_⟩
    refine ⟨by omega, by omega, ?_⟩
    rw [show max (u (25 + (b - 1)) - u (28 + (b - 1))) 0 = u (25 + (b - 1)) by omega, show max (-(u (25 + (b - 1)) - u (28 + (b - 1)))) 0 = u (28 + (b - 1)) by omega]
    exact ih2
theorem qX2_bounded {x : Int} (hR : 0 ≤ R ∧ R ≤ 100000) (hS : RelS μ c R u) (hB : BV u) (hx : 0 ≤ x ∧ x ≤ 300000) (hst : μ c 13 = steadyV x u) (hq : Q (0, boundV x u) μ) : MetP mX2_bounded [(102, c), (0, R)] μ Q := by
  have hB2 := hB
  obtain ⟨-, -, -, -, -, -, -, -, -, b8, -⟩ := hB2
  have hl := qX2_bounded_loop hR hS hB hx hst hq (min (u 8) (R + 1) - 1).toNat 1 9 0 (by omega) (by omega)
  refine MetP.go snX2_bounded [7] 100 rfl rfl rfl rfl (fun _ => ?_)
  exact hl
theorem boundV_bd {x : Int} (hB : BV u) (hx : 0 ≤ x ∧ x ≤ 300000) : -1000 ≤ boundV x u ∧ boundV x u ≤ 300000 := by
  have hc := cntV_bd hB
  have hsb := steadyV_bd hB hx
  unfold boundV
  split
  · omega
  · split <;> omega
theorem qX2_plan {x : Int} (hR : 0 ≤ R ∧ R ≤ 100000) (hS : RelS μ c R u) (hB : BV u) (hx : 0 ≤ x ∧ x ≤ 300000) (hx2 : μ c 12 = x) (hq : ∀ μ', RelS μ' c R u → PlS μ' c R x (steadyV x u) (boundV x u) (dueV x u) (-1) 0 → FrS μ μ' c → Q (9, 0) μ') : MetP mX2_plan [(102, c), (0, R)] μ Q := by
  have hB2 := hB
  obtain ⟨b0, b1, -, -, -, -, -, -, -, -, h9, -⟩ := hB2
  have hbb := boundV_bd hB hx
  refine MetP.go snX2_plan [] 100 rfl rfl rfl rfl (fun _ => ?_)
  refine qX2_steadied hR hS hB hx hx2 ?_
  intro μ1 d1
  have S1 : RelS μ1 c R u := by rw [d1]; exact hS.put h9.2 hR.1 (by omega)
  have f13 : μ1 c 13 = steadyV x u := by rw [d1]; exact upm_at _ _ _ _
  refine qX2_bounded hR S1 hB hx f13 ?_
  intro μ2 d2
  have S2 : RelS μ2 c R u := by rw [d2]; exact S1.put h9.2 hR.1 (by omega)
  have f14 : μ2 c 14 = boundV x u := by rw [d2]; exact upm_at _ _ _ _
  intro x1 e1
  obtain rfl := e1.trans f14
  refine ⟨by omega, fun x2 e2 => ?_⟩
  obtain rfl := e2.trans (S2.1 0 (by omega) (by omega))
  refine ⟨by omega, by omega, ?_⟩
  refine ⟨by omega, fun x3 e3 => ?_⟩
  obtain rfl := e3.trans (S2.1 1 (by omega) (by omega))
  refine ⟨by omega, by omega, ?_⟩
  intro μ3 d3
  have S3 : RelS μ3 c R u := by rw [d3]; exact S2.put h9.2 hR.1 (by omega)
  intro μ4 d4
  have S4 : RelS μ4 c R u := by rw [d4]; exact S3.put h9.2 hR.1 (by omega)
  refine ⟨by omega, by omega, ?_⟩
  refine ⟨by omega, fun μ5 d5 => ?_⟩
  have S5 : RelS μ5 c R u := by rw [d5]; exact S4.put h9.2 hR.1 (Or.inr ⟨rfl, rfl⟩)
  refine hq μ5 S5 ⟨?_, ?_, ?_, ?_, ?_, ?_⟩ ?_
  · rw [d5, upm_ne (by omega), d4, upm_ne (by omega), d3, upm_ne (by omega), d2, upm_ne (by omega), d1, upm_ne (by omega)]; exact hx2
  · rw [d5, upm_ne (by omega), d4, upm_ne (by omega), d3, upm_ne (by omega), d2, upm_ne (by omega)]; exact f13
  · rw [d5, upm_ne (by omega), d4, upm_ne (by omega), d3, upm_ne (by omega)]; exact f14
  · rw [d5, upm_ne (by omega), d4, upm_ne (by omega), d3, upm_at]; rfl
  · rw [d5, upm_ne (by omega), d4, upm_at]
  · rw [d5]
    exact upm_at _ _ _ _
  · intro a b hn
    rw [d5, upm_ne (by omega), d4, upm_ne (by omega), d3, upm_ne (by omega), d2, upm_ne (by omega), d1, upm_ne (by omega)]
end X4
