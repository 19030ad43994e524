section X5
variable {μ : Mem} {c h R : Int} {g u : Int → Int} {Q : PV → Mem → Prop}
/-- a change of READY, STARTING, COUNT, this round's move -/
theorem RelS_st {μ' : Mem} {u' : Int → Int} (hS : RelS μ c R u) (h9 : u 9 ≤ 3) (hR : 0 ≤ R) (hu : ∀ k, k < 10 ∨ 17 < k → u' k = u k) (h3 : μ' c 3 = cntV u') (h4 : μ' c 4 = u' 10) (hst : ∀ k, 0 ≤ k → k < 7 → μ' (c + 9) ((R + k) % 8) = u' (11 + k)) (hst7 : μ' (c + 9) ((R + 7) % 8) = 0)
    (he : ∀ a b, a ≠ c + 9 → ¬ (a = c ∧ (b = 3 ∨ b = 4)) → ¬ (a = c + 11 ∧ b = R % 4) → c ≤ a → a < c + 12 → ¬ (a = c ∧ 12 ≤ b) → μ' a b = μ a b) : RelS μ' c R u' := by
  obtain ⟨h1, ⟨h2, h2b, h2c⟩, -, -, h5, h6, h7, h8, h10, h11⟩ := hS
  have e9 : u' 9 = u 9 := hu 9 (by omega)
  refine ⟨fun k p q => ?_, ⟨?_, h3, h4⟩, hst, hst7, fun k p q d => ?_, ?_, fun k p q => ?_, ?_, ?_, fun m p q => ?_⟩
  · rw [he _ _ (by omega) (by omega) (by omega) (by omega) (by omega) (by omega), hu k (by omega)]; exact h1 k p q
  · rw [he _ _ (by omega) (by omega) (by omega) (by omega) (by omega) (by omega), e9]; exact h2
  · rw [he _ _ (by omega) (by omega) (by omega) (by omega) (by omega) (by omega), hu _ (by omega)]; exact h5 k p q d
  · rw [hu 24 (by omega)]; exact h6
  · rw [hu _ (by omega), hu _ (by omega)]
    obtain ⟨k1, k2, k3⟩ := h7 k p q
    refine ⟨fun hk => ?_, k2, k3⟩
    rw [he _ _ (by omega) (by omega) (by omega) (by omega) (by omega) (by omega)]
    exact k1 hk
  · rw [he _ _ (by omega) (by omega) (by omega) (by omega) (by omega) (by omega), hu 31 (by omega)]; exact h8
  · rw [he _ _ (by omega) (by omega) (by omega) (by omega) (by omega) (by omega), he _ _ (by omega) (by omega) (by omega) (by omega) (by omega) (by omega), he _ _ (by omega) (by omega) (by omega) (by omega) (by omega) (by omega), hu _ (by omega), hu _ (by omega), hu _ (by omega)]; exact h10
  · rw [e9] at q
    obtain ⟨a1, a2, a3, a4⟩ := h11 m p q
    rw [he _ _ (by omega) (by omega) (by omega) (by omega) (by omega) (by omega), he _ _ (by omega) (by omega) (by omega) (by omega) (by omega) (by omega), he _ _ (by omega) (by omega) (by omega) (by omega) (by omega) (by omega), hu _ (by omega), hu _ (by omega), hu _ (by omega)]
    refine ⟨a1, a2, a3, fun k p2 q2 t => ?_⟩
    rw [he _ _ (by omega) (by omega) (by omega) (by omega) (by omega) (by omega), hu _ (by omega)]
    exact a4 k p2 q2 t
/-- the loop of giving up STARTING ones -/
theorem qX2_giveUp_loop {x : Int} {μ0 : Mem} (hR : 0 ≤ R ∧ R ≤ 100000) (hu : ∀ k, 11 ≤ k → k ≤ 17 → 0 ≤ u k ∧ u k ≤ 100) (hx : 0 ≤ x ∧ x ≤ 100)
    (hq : ∀ μ', (∀ k, 0 ≤ k → k < 7 → μ' (c + 9) ((R + k) % 8) = giveN u x 6 (11 + k)) → μ' (c + 9) ((R + 7) % 8) = 0 → (∀ a b, a ≠ c + 9 → μ' a b = μ0 a b) → ∀ (x3 x4 x5 : Int) (t4 t5 : Nat), OkE mX2_giveUpTooMany 83 [(102, c), (0, R), (0, lfN u x 6), (0, x3), (t4, x4), (t5, x5)] [] μ' Q) : ∀ (d j : Nat) (μ' : Mem) (x4 x5 : Int) (t4 t5 : Nat), j + d = 6 → (∀ k, 0 ≤ k → k < 7 → μ' (c + 9) ((R + k) % 8) = giveN u x j (11 + k)) → μ' (c + 9) ((R + 7) % 8) = 0 → (∀ a b, a ≠ c + 9 → μ' a b = μ0 a b) → OkE mX2_giveUpTooMany 35 [(102, c), (0, R), (0, lfN u x j), (0, 6 - (j : Int)), (t4, x4), (t5, x5)] [] μ' Q := by
  have hu0 : ∀ k, 11 ≤ k → k ≤ 17 → 0 ≤ u k := fun k h1 h2 => (hu k h1 h2).1
  intro d
  induction d with
  | zero =>
    intro j μ' x4 x5 t4 t5 hd h1 h2 h3
    have hj : j = 6 := by omega
    subst hj
    refine OkE.go snX2_giveUpTooMany [35, 83] 100 ?_
    refine ⟨by omega, fun _ => ?_, fun q => absurd q (by omega)⟩
    exact hq μ' h1 h2 h3 _ _ _ _ _
  | succ d ih =>
    intro j μ' x4 x5 t4 t5 hd h1 h2 h3
    have hb := lfN_bd hu0 hx.1 j (by omega)
    have hk := hu (17 - (j : Int)) (by omega) (by omega)
    have hrd := h1 (6 - (j : Int)) (by omega) (by omega)
    rw [show 11 + (6 - (j : Int)) = 17 - (j : Int) by omega, giveN_at (by omega)] at hrd
    refine OkE.go snX2_giveUpTooMany [35, 83] 100 ?_
    refine ⟨by omega, fun q => absurd q (by omega), fun _ => ?_⟩
    refine ⟨by omega, by omega, ?_⟩
    refine ⟨by omega, fun x1 e1 => ?_⟩
    obtain rfl := e1.trans hrd
    refine ⟨by omega, by omega, ?_⟩
    refine ⟨by omega, fun x2 e2 => ?_⟩
    obtain rfl := e2.trans hrd
    refine ⟨by omega, fun μ1 d1 => ?_⟩
    have e : lfN u x (j + 1) = lfN u x j - min (u (17 - (j : Int))) (lfN u x j) := rfl
    have ih2 := ih (j + 1) μ1 ((R + (6 - (j : Int))) % (7 + 1)) (min (u (17 - (j : Int))) (lfN u x j)) 0 0 (by omega) (fun k p q => by
      rw [d1, ← giveN_succ]
      by_cases hk6 : k = 6 - (j : Int)
      · subst hk6
        rw [show 11 + (6 - (j : Int)) = 17 - (j : Int) by omega, upg_at]
        exact upm_at _ _ _ _
      · rw [upg_ne (by omega)]
        exact (upm_ne (by omega)).trans (h1 k p q)) (by
      rw [d1]
      exact (upm_ne (by omega)).trans h2) (fun a b hn => by
      rw [d1]
      exact (upm_ne (by omega)).trans (h3 a b hn))
    rw [e, show 6 - ((j + 1 : Nat) : Int) = 6 - (j : Int) + -1 by omega] at ih2
    exact ih2
theorem lfN_67 {x : Int} (h11 : u 11 = 0) (hl : 0 ≤ lfN u x 6) : lfN u x 7 = lfN u x 6 := by
  show lfN u x 6 - min (u (17 - ((6 : Nat) : Int))) (lfN u x 6) = lfN u x 6
  rw [show (17 - ((6 : Nat) : Int)) = 11 by omega, h11]
  omega
theorem giveN_67 {x : Int} (h11 : u 11 = 0) (hl : 0 ≤ lfN u x 6) : giveN u x 7 = giveN u x 6 := by
  rw [← giveN_succ (j := 6)]
  funext w
  unfold upg
  split
  · rename_i hw
    subst hw
    rw [giveN_at (by omega), show (17 - ((6 : Nat) : Int)) = 11 by omega, h11]
    omega
  · rfl
theorem qX2_giveUp {x st bd dd : Int} (hR : 0 ≤ R ∧ R ≤ 100000) (hS : RelS μ c R u) (hB : BV u) (h11 : u 11 = 0) (hd : 0 ≤ dd ∧ dd ≤ 20) (hp : PlS μ c R x st bd dd (-1) 0) (hq : ∀ μ', RelS μ' c R (giveV u (max (cntV u - dd) 0)) → PlS μ' c R x st bd dd (-1) (-(max (cntV u - dd) 0)) → FrS μ μ' c → Q (9, 0) μ') : MetP mX2_giveUpTooMany [(102, c), (0, R)] μ Q := by
  have hc := cntV_bd hB
  have hB2 := hB
  obtain ⟨-, -, -, -, -, -, -, -, -, -, h9, -⟩ := hB2
  have hu : ∀ k, 11 ≤ k → k ≤ 17 → 0 ≤ u k ∧ u k ≤ 100 := by
    intro k h1 h2
    obtain ⟨-, -, -, -, -, -, -, -, -, -, -, hb, hc2, -⟩ := hB
    unfold cntV at hc2
    rcases (show k = 11 ∨ k = 12 ∨ k = 13 ∨ k = 14 ∨ k = 15 ∨ k = 16 ∨ k = 17 by omega) with rfl | rfl | rfl | rfl | rfl | rfl | rfl <;> omega
  have hu0 : ∀ k, 11 ≤ k → k ≤ 17 → 0 ≤ u k := fun k h1 h2 => (hu k h1 h2).1
  obtain ⟨p12, p13, p14, p15, p16, pmv⟩ := id hp
  have hS2 := hS
  obtain ⟨hn, ⟨-, hcnt, hrdy⟩, hst, hst7, -⟩ := hS2
  refine MetP.go snX2_giveUpTooMany [35] 100 rfl rfl rfl rfl (fun _ => ?_)
  intro x1 e1
  obtain rfl := e1.trans hcnt
  intro x2 e2
  obtain rfl := e2.trans p15
  refine ⟨by omega, by omega, fun q => ?_, fun q => ?_⟩
  · have ex : max (cntV u - x2) 0 = cntV u - x2 := by omega
    rw [ex] at hq
    have hl6 := lfN_bd hu0 (x := cntV u - x2) (by omega) 6 (by omega)
    intro x3 e3
    obtain rfl := e3.trans hcnt
    intro x4 e4
    obtain rfl := e4.trans p15
    refine ⟨by omega, by omega, ?_⟩
    refine ⟨by omega, fun μ1 d1 => ?_⟩
    have hl := qX2_giveUp_loop (c := c) (u := u) (x := cntV u - x4) (μ0 := μ1) (Q := Q) hR hu (by omega) (fun μ' k1 k2 k3 x3 y4 y5 t4 t5 => by
      have g1 : ∀ a b, a ≠ c + 9 → ¬ (a = c + 11 ∧ b = R % 4) → μ' a b = μ a b := fun a b p1 p2 => by
        rw [k3 a b p1, d1]
        exact upm_ne (by omega)
      refine OkE.go snX2_giveUpTooMany [] 100 ?_
      intro z1 f1
      obtain rfl : z1 = u 10 := f1.trans ((g1 c 4 (by omega) (by omega)).trans hrdy)
      intro μ2 d2
      intro z2 f2
      obtain rfl : z2 = x4 := f2.trans (by rw [d2]; exact (upm_ne (by omega)).trans ((g1 c 15 (by omega) (by omega)).trans p15))
      intro μ3 d3
      have g3 : ∀ a b, a ≠ c + 9 → ¬ (a = c ∧ (b = 3 ∨ b = 4)) → ¬ (a = c + 11 ∧ b = R % 4) → μ3 a b = μ a b := fun a b p1 p2 p3 => by
        rw [d3, d2]
        exact (upm_ne (by omega)).trans ((upm_ne (by omega)).trans (g1 a b p1 p3))
      refine hq μ3 (RelS_st hS h9.2 hR.1 (fun k hk => giveV_ne hk) ?_ ?_ ?_ ?_ (fun a b p1 p2 p3 _ _ _ => g3 a b p1 p2 p3)) ⟨?_, ?_, ?_, ?_, ?_, ?_⟩ ?_
      · rw [cnt_giveV, d3]
        refine (upm_at _ _ _ _).trans ?_
        omega
      · rw [d3, upm_ne (by omega), d2]
        refine (upm_at _ _ _ _).trans ?_
        unfold giveV
        rw [upg_at, lfN_67 h11 hl6.1]
      · intro k p q
        rw [d3, d2]
        refine ((upm_ne (by omega)).trans (upm_ne (by omega))).trans ((k1 k p q).trans ?_)
        unfold giveV
        rw [upg_ne (by omega), giveN_67 h11 hl6.1]
      · rw [d3, d2]
        exact ((upm_ne (by omega)).trans (upm_ne (by omega))).trans k2
      · exact (g3 c 12 (by omega) (by omega) (by omega)).trans p12
      · exact (g3 c 13 (by omega) (by omega) (by omega)).trans p13
      · exact (g3 c 14 (by omega) (by omega) (by omega)).trans p14
      · exact (g3 c 15 (by omega) (by omega) (by omega)).trans p15
      · exact (g3 c 16 (by omega) (by omega) (by omega)).trans p16
      · rw [d3, d2]
        refine ((upm_ne (by omega)).trans (upm_ne (by omega))).trans ((k3 _ _ (by omega)).trans ?_)
        rw [d1]
        exact upm_at _ _ _ _
      · intro a b hnn
        exact g3 a b (by omega) (by omega) (by omega)) 6 0 μ1 0 0 9 9 (by omega) (fun k p q => by
      rw [d1, giveN_at (by omega)]
      exact (upm_ne (by omega)).trans (hst k p q)) (by
      rw [d1]
      exact (upm_ne (by omega)).trans hst7) (fun a b _ => rfl)
    exact hl
  · have ex : max (cntV u - x2) 0 = 0 := by omega
    rw [ex, giveV_0 hu0] at hq
    exact hq μ hS hp FrS.rf
theorem qX2_get {x st bd dd pl mv many warm cold : Int} (hR : 0 ≤ R ∧ R ≤ 100000) (hS : RelS μ c R u) (h9 : u 9 ≤ 3) (hcold : 1 ≤ cold ∧ cold ≤ 6) (hp : PlS μ c R x st bd dd pl mv) (hq : ∀ μ', RelS μ' c R (getV u warm many cold) → PlS μ' c R x st bd dd pl many → FrS μ μ' c → Q (9, 0) μ') : MetP mX2_get [(102, c), (0, R), (0, many), (0, warm), (0, cold)] μ Q := by
  obtain ⟨p12, p13, p14, p15, p16, pmv⟩ := id hp
  have hS2 := hS
  obtain ⟨hn, ⟨-, hcnt, hrdy⟩, hst, hst7, -⟩ := hS2
  refine MetP.go snX2_get [] 100 rfl rfl rfl rfl (fun _ => ?_)
  refine ⟨by omega, by omega, ?_⟩
  refine ⟨by omega, fun x1 e1 => ?_⟩
  obtain rfl : x1 = u 12 := e1.trans (hst 1 (by omega) (by omega))
  refine ⟨by omega, fun μ1 d1 => ?_⟩
  have s1 : ∀ k, 0 ≤ k → k < 7 → μ1 (c + 9) ((R + k) % 8) = upg u 12 (u 12 + warm) (11 + k) := by
    intro k p q
    rw [d1]
    by_cases hk : k = 1
    · subst hk
      rw [show (11 : Int) + 1 = 12 from rfl, upg_at]
      exact upm_at _ _ _ _
    · rw [upg_ne (by omega)]
      exact (upm_ne (by omega)).trans (hst k p q)
  refine ⟨by omega, by omega, ?_⟩
  refine ⟨by omega, fun x2 e2 => ?_⟩
  obtain rfl := e2.trans (s1 cold (by omega) (by omega))
  refine ⟨by omega, fun μ2 d2 => ?_⟩
  have g2 : ∀ a b, a ≠ c + 9 → μ2 a b = μ a b := fun a b p1 => by
    rw [d2, d1]
    exact (upm_ne (by omega)).trans (upm_ne (by omega))
  intro x3 e3
  obtain rfl := e3.trans ((g2 c 3 (by omega)).trans hcnt)
  intro μ3 d3
  refine ⟨by omega, by omega, ?_⟩
  refine ⟨by omega, fun μ4 d4 => ?_⟩
  have g4 : ∀ a b, a ≠ c + 9 → ¬ (a = c ∧ (b = 3 ∨ b = 4)) → ¬ (a = c + 11 ∧ b = R % 4) → μ4 a b = μ a b := fun a b p1 p2 p3 => by
    rw [d4, d3]
    exact (upm_ne (by omega)).trans ((upm_ne (by omega)).trans (g2 a b p1))
  refine hq μ4 (RelS_st hS h9 hR.1 (fun k hk => getV_ne hcold (by omega)) ?_ ?_ ?_ ?_ (fun a b p1 p2 p3 _ _ _ => g4 a b p1 p2 p3)) ⟨?_, ?_, ?_, ?_, ?_, ?_⟩ ?_
  · rw [cnt_getV hcold, d4, upm_ne (by omega), d3]
    exact upm_at _ _ _ _
  · rw [d4, upm_ne (by omega), d3]
    refine (upm_ne (by omega)).trans ((g2 c 4 (by omega)).trans ?_)
    rw [getV_ne hcold (by omega)]
    exact hrdy
  · intro k p q
    rw [d4, d3]
    refine ((upm_ne (by omega)).trans (upm_ne (by omega))).trans ?_
    rw [d2]
    unfold getV
    by_cases hk : k = cold
    · subst hk
      rw [upg_at]
      exact upm_at _ _ _ _
    · rw [upg_ne (k := 11 + cold) (j := 11 + k) (by omega)]
      exact (upm_ne (by omega)).trans (s1 k p q)
  · rw [d4, d3]
    refine ((upm_ne (by omega)).trans (upm_ne (by omega))).trans ?_
    rw [d2, d1]
    exact (upm_ne (by omega)).trans ((upm_ne (by omega)).trans hst7)
  · exact (g4 c 12 (by omega) (by omega) (by omega)).trans p12
  · exact (g4 c 13 (by omega) (by omega) (by omega)).trans p13
  · exact (g4 c 14 (by omega) (by omega) (by omega)).trans p14
  · exact (g4 c 15 (by omega) (by omega) (by omega)).trans p15
  · exact (g4 c 16 (by omega) (by omega) (by omega)).trans p16
  · rw [d4]
    exact upm_at _ _ _ _
  · intro a b hnn
    exact g4 a b (by omega) (by omega) (by omega)
end X5
