/-- the plan that stays behind a round -/
def PlF (μ : Mem) (c x st bd du pl : Int) : Prop := μ c 12 = x ∧ μ c 13 = st ∧ μ c 14 = bd ∧ μ c 15 = du ∧ μ c 16 = pl
section X7
variable {μ : Mem} {c h R : Int} {g u : Int → Int} {Q : PV → Mem → Prop}
theorem qX2_close {x st bd dd pl got gave : Int} (hR : 0 ≤ R ∧ R ≤ 100000) (hS : RelS μ c R u) (hB : BV u) (h11 : u 11 = 0) (hx : 0 ≤ x ∧ x ≤ 300000) (hg : (0 ≤ got ∧ got ≤ 20) ∧ (0 ≤ gave ∧ gave ≤ 20) ∧ (got = 0 ∨ gave = 0)) (hp : PlS μ c R x st bd dd pl (got - gave)) (hq : ∀ μ', RelS μ' c (R + 1) (sumsV u x got gave) → PlF μ' c x st bd dd pl → FrS μ μ' c → Q (9, 0) μ') : MetP mX2_close [(102, c), (0, R)] μ Q := by
  have hc := cntV_bd hB
  have hB2 := hB
  obtain ⟨-, -, -, -, -, -, -, -, -, -, h9, -⟩ := hB2
  obtain ⟨p12, p13, p14, p15, p16, pmv⟩ := id hp
  have hS2 := hS
  obtain ⟨hn, ⟨hmc, hcnt, hrdy⟩, hst, hst7, -, -, -, ⟨h31, h8b⟩, ⟨h32, h33, h34⟩, hM⟩ := hS2
  have J85 : ∀ μa : Mem, μa c 9 = u 32 + cntV u → μa c 10 = u 33 + max (x - u 10) 0 → μa c 11 = u 34 + (if (0 < got ∧ u 31 < 0) ∨ (0 < gave ∧ 0 < u 31) then 1 else 0) → μa c 8 = (if got - gave = 0 then μ c 8 else got - gave) → (∀ a b, ¬ (a = c ∧ 8 ≤ b ∧ b ≤ 11) → μa a b = μ a b) → OkE mX2_close 85 [(102, c), (0, R), (0, got - gave), (9, 0)] [] μa Q := by
    intro μa a9 a10 a11 a8 ae
    refine OkE.go snX2_close [100] 100 ?_
    refine ⟨by omega, by omega, ?_⟩
    intro x1 e1
    obtain rfl : x1 = x := e1.trans ((ae c 12 (by omega)).trans p12)
    refine ⟨by omega, fun μ5 d5 => ?_⟩
    have n5 : ∀ a b, ¬ (a = c + 10 ∧ b = R % 8) → μ5 a b = μa a b := fun a b hn => by rw [d5]; exact upm_ne hn
    have v5 : μ5 (c + 10) (R % 8) = x1 := by rw [d5]; exact upm_at _ _ _ _
    have hl := qX2_close_loop (c := c) (u := u) (l2 := got - gave) (μ0 := μ5) (Q := Q) hR h9 (by rw [n5 _ _ (by omega), ae _ _ (by omega)]; exact hmc) (fun m q1 q2 => by rw [n5 _ _ (by omega), ae _ _ (by omega)]; exact (hM m q1 q2).2.2.1) (fun μ' k1 k2 => by
      have ke : ∀ a b, ¬ (∃ m, 0 ≤ m ∧ m < u 9 ∧ a = c + 2 + 1 + 2 * m + 1) → μ' a b = μ5 a b := fun a b hn => k2 a b (fun q => hn q.2)
      refine hq μ' (RelS_close hR hS hB h11 hg pmv ?_ ?_ ?_ ?_ ?_ k1 ?_) ⟨?_, ?_, ?_, ?_, ?_⟩ ?_
      · rw [ke _ _ (by rintro ⟨m, q1, q2, q3⟩; omega), n5 _ _ (by omega)]; exact a9
      · rw [ke _ _ (by rintro ⟨m, q1, q2, q3⟩; omega), n5 _ _ (by omega)]; exact a10
      · rw [ke _ _ (by rintro ⟨m, q1, q2, q3⟩; omega), n5 _ _ (by omega)]; exact a11
      · rw [ke _ _ (by rintro ⟨m, q1, q2, q3⟩; omega), n5 _ _ (by omega)]; exact a8
      · rw [ke _ _ (by rintro ⟨m, q1, q2, q3⟩; omega)]; exact v5
      · intro a b p1 p2 p3 p4 p5
        rw [k2 a b p5, n5 a b p4, ae a b (by omega)]
      · rw [ke _ _ (by rintro ⟨m, q1, q2, q3⟩; omega), n5 _ _ (by omega), ae _ _ (by omega)]; exact p12
      · rw [ke _ _ (by rintro ⟨m, q1, q2, q3⟩; omega), n5 _ _ (by omega), ae _ _ (by omega)]; exact p13
      · rw [ke _ _ (by rintro ⟨m, q1, q2, q3⟩; omega), n5 _ _ (by omega), ae _ _ (by omega)]; exact p14
      · rw [ke _ _ (by rintro ⟨m, q1, q2, q3⟩; omega), n5 _ _ (by omega), ae _ _ (by omega)]; exact p15
      · rw [ke _ _ (by rintro ⟨m, q1, q2, q3⟩; omega), n5 _ _ (by omega), ae _ _ (by omega)]; exact p16
      · intro a b hnn
        rw [ke _ _ (by rintro ⟨m, q1, q2, q3⟩; omega), n5 _ _ (by omega), ae _ _ (by omega)]) (u 9).toNat 0 μ5 (by omega) (by omega) (fun j q1 q2 => by omega) (fun a b _ => rfl)
    exact hl
  have J76 : ∀ μa : Mem, μa c 9 = u 32 + cntV u → μa c 10 = u 33 + max (x - u 10) 0 → μa c 11 = u 34 + (if (0 < got ∧ u 31 < 0) ∨ (0 < gave ∧ 0 < u 31) then 1 else 0) → (∀ a b, ¬ (a = c ∧ 9 ≤ b ∧ b ≤ 11) → μa a b = μ a b) → OkE mX2_close 76 [(102, c), (0, R), (0, got - gave), (9, 0)] [] μa Q := by
    intro μa a9 a10 a11 ae
    refine OkE.go snX2_close [85] 100 ?_
    refine ⟨by omega, fun q => ?_, fun q => ?_⟩
    · exact J85 μa a9 a10 a11 (by rw [if_pos q]; exact ae c 8 (by omega)) (fun a b hn => ae a b (by omega))
    · intro μ4 d4
      have n4 : ∀ a b, ¬ (a = c ∧ b = 8) → μ4 a b = μa a b := fun a b hn => by rw [d4]; exact upm_ne hn
      exact J85 μ4 (by rw [n4 _ _ (by omega)]; exact a9) (by rw [n4 _ _ (by omega)]; exact a10) (by rw [n4 _ _ (by omega)]; exact a11) (by rw [d4, if_neg q]; exact upm_at _ _ _ _) (fun a b hn => by rw [n4 a b (by omega)]; exact ae a b (by omega))
  refine MetP.go snX2_close [66, 76, 55] 100 rfl rfl rfl rfl (fun _ => ?_)
  intro x1 e1
  obtain rfl := e1.trans h32
  intro x2 e2
  obtain rfl := e2.trans hcnt
  intro μ1 d1
  have n1 : ∀ a b, ¬ (a = c ∧ b = 9) → μ1 a b = μ a b := fun a b hn => by rw [d1]; exact upm_ne hn
  intro x3 e3
  obtain rfl := e3.trans ((n1 c 10 (by omega)).trans h33)
  intro x4 e4
  obtain rfl := e4.trans ((n1 c 12 (by omega)).trans p12)
  intro x5 e5
  obtain rfl := e5.trans ((n1 c 4 (by omega)).trans hrdy)
  refine ⟨by omega, by omega, ?_⟩
  intro μ2 d2
  have n2 : ∀ a b, ¬ (a = c ∧ 9 ≤ b ∧ b ≤ 10) → μ2 a b = μ a b := fun a b hn => by rw [d2]; exact (upm_ne (by omega)).trans (n1 a b (by omega))
  have v9 : μ2 c 9 = u 32 + cntV u := by rw [d2, upm_ne (by omega), d1]; exact upm_at _ _ _ _
  have v10 : μ2 c 10 = u 33 + max (x4 - u 10) 0 := by rw [d2]; exact upm_at _ _ _ _
  have v11 : μ2 c 11 = u 34 := (n2 c 11 (by omega)).trans h34
  have w8 : μ2 c 8 = μ c 8 := n2 c 8 (by omega)
  refine ⟨by omega, by omega, ?_⟩
  refine ⟨by omega, fun x6 e6 => ?_⟩
  obtain rfl : x6 = got - gave := e6.trans ((n2 _ _ (by omega)).trans pmv)
  have J66 : ((0 < got ∧ u 31 < 0) ∨ (0 < gave ∧ 0 < u 31)) → OkE mX2_close 66 [(102, c), (0, R), (0, got - gave), (9, 0)] [] μ2 Q := by
    intro hcnd
    refine OkE.go snX2_close [76] 100 ?_
    intro y1 f1
    obtain rfl := f1.trans v11
    intro μ3 d3
    have n3 : ∀ a b, ¬ (a = c ∧ b = 11) → μ3 a b = μ2 a b := fun a b hn => by rw [d3]; exact upm_ne hn
    exact J76 μ3 (by rw [n3 _ _ (by omega)]; exact v9) (by rw [n3 _ _ (by omega)]; exact v10) (by rw [if_pos hcnd, d3]; exact upm_at _ _ _ _) (fun a b hn => by rw [n3 a b (by omega)]; exact n2 a b (by omega))
  have K76 : ¬ ((0 < got ∧ u 31 < 0) ∨ (0 < gave ∧ 0 < u 31)) → OkE mX2_close 76 [(102, c), (0, R), (0, got - gave), (9, 0)] [] μ2 Q := by
    intro hcnd
    exact J76 μ2 v9 v10 (by rw [if_neg hcnd, v11]; omega) (fun a b hn => n2 a b (by omega))
  have K55 : ¬ (0 < got ∧ u 31 < 0) → OkE mX2_close 55 [(102, c), (0, R), (0, got - gave), (9, 0)] [] μ2 Q := by
    intro hcnd
    refine OkE.go snX2_close [66, 76] 100 ?_
    refine ⟨by omega, fun q => ?_, fun q => ?_⟩
    · exact K76 (by omega)
    intro y1 f1
    obtain rfl := f1.trans w8
    refine ⟨by omega, fun q2 => ?_, fun q2 => ?_⟩
    · exact K76 (by omega)
    · exact J66 (by omega)
  refine ⟨by omega, fun q => ?_, fun q => ?_⟩
  · exact K55 (by omega)
  intro y1 f1
  obtain rfl := f1.trans w8
  refine ⟨by omega, fun q2 => ?_, fun q2 => ?_⟩
  · exact J66 (by omega)
  · exact K55 (by omega)
/-- the sum of a House's COUNTS -/
theorem qX0_servers_loop {f : Int → Int} {n : Int} (hn : 1 ≤ n ∧ n ≤ 4) (h2 : μ h 2 = n) (hc : ∀ s, 0 ≤ s → s < n → μ (h + 2 + 1 + 12 * s) 3 = f s) (hq : Q (0, sumI f n) μ) : ∀ (d : Nat) (s a : Int), 0 ≤ s → s + d = n → a = sumI f s → OkE mX0_servers 4 [(100, h), (0, a), (0, s)] [] μ Q
  | 0, s, a, h0, hd, ha => by
    refine OkE.go snX0_servers [4] 100 ?_
    intro x1 e1
    obtain rfl := e1.trans h2
    refine ⟨by omega, by omega, fun _ => ?_, fun q => absurd q (by omega)⟩
    rw [ha, show s = x1 by omega]
    exact hq
  | d + 1, s, a, h0, hd, ha => by
    refine OkE.go snX0_servers [4] 100 ?_
    intro x1 e1
    obtain rfl := e1.trans h2
    refine ⟨by omega, by omega, fun q => absurd q (by omega), fun _ => ?_⟩
    refine ⟨by omega, ?_⟩
    intro x2 e2
    obtain rfl := e2.trans (hc s h0 (by omega))
    exact qX0_servers_loop hn h2 hc hq d (s + 1) _ (by omega) (by omega) (by rw [sumI_succ _ h0, ha])
theorem qX0_servers {f : Int → Int} {n : Int} (hn : 1 ≤ n ∧ n ≤ 4) (h2 : μ h 2 = n) (hc : ∀ s, 0 ≤ s → s < n → μ (h + 2 + 1 + 12 * s) 3 = f s) (hq : Q (0, sumI f n) μ) : MetP mX0_servers [(100, h)] μ Q := by
  refine MetP.go snX0_servers [4] 100 rfl rfl rfl rfl (fun _ => ?_)
  exact qX0_servers_loop hn h2 hc hq n.toNat 0 0 (by omega) (by omega) rfl
end X7
