/-! THE CLASS: a Service at place c holds the row u at round R -/
def RelS (μ : Mem) (c R : Int) (u : Int → Int) : Prop :=
  (∀ k, 0 ≤ k → k < 9 → μ (c + 1) k = u k) ∧ (μ c 2 = u 9 ∧ μ c 3 = cntV u ∧ μ c 4 = u 10) ∧ (∀ k, 0 ≤ k → k < 7 → μ (c + 9) ((R + k) % 8) = u (11 + k)) ∧ μ (c + 9) ((R + 7) % 8) = 0 ∧
  (∀ k, 0 ≤ k → k < 5 → k < R → μ (c + 10) ((R - 1 - k) % 8) = u (18 + k)) ∧ u 24 = min R 6 ∧
  (∀ k, 0 ≤ k → k < 3 → (k < R → μ (c + 11) ((R - 1 - k) % 4) = u (25 + k) - u (28 + k)) ∧ (R ≤ k → u (25 + k) = 0 ∧ u (28 + k) = 0) ∧ (u (25 + k) = 0 ∨ u (28 + k) = 0)) ∧
  (((u 31 = 0 ∧ μ c 8 = 0) ∨ (u 31 = 1 ∧ 0 < μ c 8) ∨ (u 31 = -1 ∧ μ c 8 < 0)) ∧ -1000 ≤ μ c 8 ∧ μ c 8 ≤ 1000) ∧ (μ c 9 = u 32 ∧ μ c 10 = u 33 ∧ μ c 11 = u 34) ∧
  (∀ m, 0 ≤ m → m < u 9 → μ (c + 2 + 1 + 2 * m) 0 = u (35 + 21 * m) ∧ μ (c + 2 + 1 + 2 * m) 1 = u (36 + 21 * m) ∧ μ (c + 2 + 1 + 2 * m) 2 = u (37 + 21 * m) ∧ ∀ k, 0 ≤ k → k < 18 → k < R → μ (c + 2 + 1 + 2 * m + 1) ((R - 1 - k) % 32) = u (38 + 21 * m + k))
/-- a Service's cells alone matter -/
theorem RelS.frame {μ μ' : Mem} {c R : Int} {u : Int → Int} (h : RelS μ c R u) (h9 : u 9 ≤ 3) (hf : ∀ a b, c ≤ a → a < c + 12 → μ' a b = μ a b) : RelS μ' c R u := by
  obtain ⟨h1, h2, h3, h4, h5, h6, h7, h8, h10, h11⟩ := h
  refine ⟨fun k a b => ?_, ?_, fun k a b => ?_, ?_, fun k a b d => ?_, h6, fun k a b => ?_, ?_, ?_, fun m a b => ?_⟩
  · rw [hf _ _ (by omega) (by omega)]; exact h1 k a b
  · rw [hf _ _ (by omega) (by omega), hf _ _ (by omega) (by omega), hf _ _ (by omega) (by omega)]; exact h2
  · rw [hf _ _ (by omega) (by omega)]; exact h3 k a b
  · rw [hf _ _ (by omega) (by omega)]; exact h4
  · rw [hf _ _ (by omega) (by omega)]; exact h5 k a b d
  · rw [hf _ _ (by omega) (by omega)]; exact h7 k a b
  · rw [hf _ _ (by omega) (by omega)]; exact h8
  · rw [hf _ _ (by omega) (by omega), hf _ _ (by omega) (by omega), hf _ _ (by omega) (by omega)]; exact h10
  · obtain ⟨a1, a2, a3, a4⟩ := h11 m a b
    rw [hf _ _ (by omega) (by omega), hf _ _ (by omega) (by omega), hf _ _ (by omega) (by omega)]
    refine ⟨a1, a2, a3, fun k p q t => ?_⟩
    rw [hf _ _ (by omega) (by omega)]
    exact a4 k p q t
section X1
variable {μ : Mem} {c R : Int} {g u : Int → Int} {Q : PV → Mem → Prop}
theorem qX4_cut {a b : Int} (ha : 0 ≤ a ∧ a ≤ 100000000) (hb : 1 ≤ b ∧ b ≤ 100000) (h : Q (0, a / b) μ) : MetP mX4_cut [(0, a), (0, b)] μ Q := by
  refine MetP.go snX4_cut [] 100 rfl rfl rfl rfl (fun _ => ?_)
  refine ⟨by omega, by omega, fun q => ?_, fun q => absurd q (by omega)⟩
  refine ⟨by omega, ?_⟩
  exact h
theorem qX4_cutUp {a b : Int} (ha : 0 ≤ a ∧ a ≤ 100000000) (hb : 0 ≤ b ∧ b ≤ 100000) (h : Q (0, if b = 0 then 0 else upI a b) μ) : MetP mX4_cutUp [(0, a), (0, b)] μ Q := by
  refine MetP.go snX4_cutUp [] 100 rfl rfl rfl rfl (fun _ => ?_)
  refine ⟨by omega, by omega, fun q => ?_, fun q => ?_⟩
  · refine ⟨by omega, ?_⟩
    rw [if_neg (by omega)] at h
    exact h
  · rw [if_pos (by omega)] at h
    exact h
/-- the measure's want, in the class's own words, is the row's -/
theorem qX1_wantBy {m x fs rdy cnt : Int} (hk : μ c 0 = u (35 + 21 * m)) (ht : μ c 1 = u (36 + 21 * m)) (hkb : 1 ≤ u (35 + 21 * m) ∧ u (35 + 21 * m) ≤ 4) (htb : 1 ≤ u (36 + 21 * m) ∧ u (36 + 21 * m) ≤ 99) (hx : -1 ≤ x ∧ x ≤ 9999) (hr : rdy = u 10) (hrb : 0 ≤ rdy ∧ rdy ≤ 20) (hc : cnt = cntV u) (hcb : 0 ≤ cnt ∧ cnt ≤ 20) (hf : u (35 + 21 * m) = 2 → fs = foreV g u m (g 1)) (hfb : 0 ≤ fs ∧ fs ≤ 30000) (h : Q (0, wantV g u m x) μ) : MetP mX1_wantBy [(101, c), (0, x), (0, cnt), (0, rdy), (0, fs)] μ Q := by
  subst hr
  subst hc
  unfold wantV at h
  refine MetP.go snX1_wantBy [] 100 rfl rfl rfl rfl (fun _ => ?_)
  refine ⟨by omega, by omega, fun q => ?_, fun q => ?_⟩
  · rw [if_neg (by omega)] at h
    intro x1 e1
    obtain rfl := e1.trans hk
    refine ⟨by omega, ?_⟩
    refine ⟨fun q2 => ?_, fun q2 => ?_⟩
    · rw [if_neg (by omega), if_pos q2] at h
      refine ⟨by omega, by omega, ?_⟩
      intro x2 e2
      obtain rfl := e2.trans ht
      refine qX4_cutUp (by omega) (by omega) ?_
      rw [if_neg (by omega), hf q2, Int.max_comm]
      exact h
    refine ⟨fun q3 => ?_, fun q3 => ?_⟩
    · rw [if_neg (by omega), if_neg q2, if_pos q3] at h
      intro x2 e2
      obtain rfl := e2.trans ht
      refine ⟨by omega, ?_⟩
      intro x3 e3
      obtain rfl := e3.trans ht
      have ea : (if 0 ≤ x - u (36 + 21 * m) then x - u (36 + 21 * m) else -(x - u (36 + 21 * m))) = (if u (36 + 21 * m) < x then x - u (36 + 21 * m) else u (36 + 21 * m) - x) := by
        split <;> split <;> omega
      rw [← ea] at h
      generalize (if 0 ≤ x - u (36 + 21 * m) then x - u (36 + 21 * m) else -(x - u (36 + 21 * m))) = y at h ea ⊢
      have hy : 0 ≤ y ∧ y ≤ 10000 := by rw [ea]; split <;> omega
      refine ⟨by omega, by omega, fun q4 => ?_, fun q4 => ?_⟩
      · rw [if_neg (by omega)] at h
        refine ⟨by omega, by omega, ?_⟩
        intro x4 e4
        obtain rfl := e4.trans ht
        have em : max (u 10) 1 = (if u 10 = 0 then 1 else u 10) := by split <;> omega
        rw [← em] at h
        have h2 : 0 ≤ max (u 10) 1 * x := Int.mul_nonneg (by omega) (by omega)
        have h3 : max (u 10) 1 * x ≤ 20 * x := Int.mul_le_mul_of_nonneg_right (by omega) (by omega)
        refine qX4_cutUp (by omega) (by omega) ?_
        rw [if_neg (by omega)]
        exact h
      · rw [if_pos (by omega)] at h
        exact h
    refine ⟨fun q4 => ?_, fun q4 => ?_⟩
    · rw [if_neg (by omega), if_neg q2, if_neg q3] at h
      refine ⟨by omega, fun q5 => ?_, fun q5 => ?_⟩
      · rw [if_pos (by omega)] at h
        intro x2 e2
        obtain rfl := e2.trans ht
        refine qX4_cut (by omega) (by omega) ?_
        exact h
      · rw [if_neg (by omega)] at h
        refine ⟨by omega, by omega, ?_⟩
        have em : max (cntV u - 1) 0 = (if 0 < cntV u then cntV u - 1 else 0) := by split <;> omega
        rw [← em] at h
        exact h
    · rw [if_pos (by omega)] at h
      intro x2 e2
      obtain rfl := e2.trans ht
      refine qX4_cutUp (by omega) (by omega) ?_
      rw [if_neg (by omega)]
      exact h
  · rw [if_pos (by omega)] at h
    exact h
/-- one turn of foresee's loop -/
theorem qX1_fc_turn {m hh k a b o7 : Int} {t7 : Nat} (hG : BG g) (hh0 : 0 ≤ hh ∧ hh ≤ 12) (hk : 1 ≤ k ∧ k ≤ 3) (hub : ∀ k, 0 ≤ k → k < 18 → -1 ≤ u (38 + 21 * m + k) ∧ u (38 + 21 * m + k) ≤ 9999) (hp : ∀ k, 0 ≤ k → k < 18 → k < g 6 → μ (c + 1) ((g 6 - 1 - k) % 32) = u (38 + 21 * m + k))
    (h : ∀ o : Int, OkE mX1_foresee 9 [(101, c), (0, g 6), (0, hh), (0, g 4), (0, a + fcS g u m hh k), (0, b + fcM g u m hh k), (0, k + 1), (0, o)] [] μ Q) : OkE mX1_foresee 9 [(101, c), (0, g 6), (0, hh), (0, g 4), (0, a), (0, b), (0, k), (t7, o7)] [] μ Q := by
  obtain ⟨g0, g1, g2, g3, g4, g5, g6, g7⟩ := hG
  have hkg : 0 ≤ k * g 4 ∧ k * g 4 ≤ 18 := by
    rcases (show k = 1 ∨ k = 2 ∨ k = 3 by omega) with rfl | rfl | rfl <;> omega
  have hc := fc_step g u m hh k
  have fin : ¬ fcP g u m hh k = true → ∀ o : Int, OkE mX1_foresee 9 [(101, c), (0, g 6), (0, hh), (0, g 4), (0, a), (0, b), (0, k + 1), (0, o)] [] μ Q := by
    intro hn o
    rcases hc with ⟨c1, -, -⟩ | ⟨-, c2, c3⟩
    · exact absurd c1 hn
    · have h2 := h o
      rw [c2, c3, Int.add_zero, Int.add_zero] at h2
      exact h2
  have P77 : ¬ fcP g u m hh k = true → OkE mX1_foresee 77 [(101, c), (0, g 6), (0, hh), (0, g 4), (0, a), (0, b), (0, k), (0, g 6 + hh - k * g 4)] [] μ Q := by
    intro hn
    refine OkE.go snX1_foresee [9] 100 ?_
    exact fin hn _
  have hfp : fcP g u m hh k = true ↔ 0 ≤ k * g 4 - hh - 1 ∧ k * g 4 - hh - 1 ≤ min (g 6) 18 - 1 ∧ 0 ≤ u (38 + 21 * m + (k * g 4 - hh - 1)) := by
    unfold fcP
    simp only [Bool.and_eq_true, decide_eq_true_eq, and_assoc]
  refine OkE.go snX1_foresee [9, 77] 100 ?_
  refine ⟨by omega, by omega, fun q => absurd q (by omega), fun _ => ?_⟩
  refine ⟨by omega, by omega, fun q => ?_, fun q => ?_⟩
  · exact P77 (by rw [hfp]; omega)
  refine ⟨by omega, fun q2 => ?_, fun q2 => ?_⟩
  · exact P77 (by rw [hfp]; omega)
  refine ⟨by omega, by omega, fun q3 => ?_, fun q3 => ?_⟩
  · exact P77 (by rw [hfp]; omega)
  have hpk := hp (k * g 4 - hh - 1) (by omega) (by omega) (by omega)
  rw [show g 6 - 1 - (k * g 4 - hh - 1) = g 6 + hh - k * g 4 by omega] at hpk
  have hb := hub (k * g 4 - hh - 1) (by omega) (by omega)
  refine ⟨by omega, by omega, ?_⟩
  refine ⟨by omega, fun x1 e1 => ?_⟩
  obtain rfl := e1.trans hpk
  refine ⟨by omega, by omega, fun q4 => ?_, fun q4 => ?_⟩
  · exact P77 (by rw [hfp]; omega)
  refine ⟨by omega, by omega, ?_⟩
  refine ⟨by omega, fun x1 e1 => ?_⟩
  obtain rfl := e1.trans hpk
  rcases hc with ⟨c1, c2, c3⟩ | ⟨c1, c2, c3⟩
  · have h2 := h (g 6 + hh - k * g 4)
    rw [c2, c3] at h2
    have h3 : OkE mX1_foresee 77 [(101, c), (0, g 6), (0, hh), (0, g 4), (0, a + u (38 + 21 * m + (k * g 4 - hh - 1))), (0, b + 1), (0, k), (0, g 6 + hh - k * g 4)] [] μ Q := by
      refine OkE.go snX1_foresee [9] 100 ?_
      exact h2
    exact h3
  · exact absurd (hfp.mpr (by omega)) c1
theorem qX1_foresee {m hh : Int} (hG : BG g) (hh0 : 0 ≤ hh ∧ hh ≤ 12) (hub : ∀ k, 0 ≤ k → k < 18 → -1 ≤ u (38 + 21 * m + k) ∧ u (38 + 21 * m + k) ≤ 9999) (hp : ∀ k, 0 ≤ k → k < 18 → k < g 6 → μ (c + 1) ((g 6 - 1 - k) % 32) = u (38 + 21 * m + k)) (h : Q (0, foreV g u m hh) μ) : MetP mX1_foresee [(101, c), (0, g 6), (0, hh), (0, g 4)] μ Q := by
  have s1 := fcS_bd (g := g) (h := hh) (k := 1) hub
  have s2 := fcS_bd (g := g) (h := hh) (k := 1 + 1) hub
  have s3 := fcS_bd (g := g) (h := hh) (k := 1 + 1 + 1) hub
  have m1 := fcM_bd g u m hh 1
  have m2 := fcM_bd g u m hh (1 + 1)
  have m3 := fcM_bd g u m hh (1 + 1 + 1)
  refine MetP.go snX1_foresee [9] 100 rfl rfl rfl rfl (fun _ => ?_)
  refine qX1_fc_turn (k := 1) hG hh0 (by omega) hub hp (fun o => ?_)
  refine qX1_fc_turn (k := 1 + 1) hG hh0 (by omega) hub hp (fun o => ?_)
  refine qX1_fc_turn (k := 1 + 1 + 1) hG hh0 (by omega) hub hp (fun o => ?_)
  have e : foreV g u m hh = if 0 + fcM g u m hh 1 + fcM g u m hh (1 + 1) + fcM g u m hh (1 + 1 + 1) = 0 then 0 else upI (0 + fcS g u m hh 1 + fcS g u m hh (1 + 1) + fcS g u m hh (1 + 1 + 1)) (0 + fcM g u m hh 1 + fcM g u m hh (1 + 1) + fcM g u m hh (1 + 1 + 1)) := by
    rw [Int.zero_add, Int.zero_add]; rfl
  rw [e] at h
  refine OkE.go snX1_foresee [9] 100 ?_
  refine ⟨by omega, by omega, fun _ => ?_, fun q => absurd q (by omega)⟩
  refine qX4_cutUp (by omega) (by omega) ?_
  exact h
theorem qX2_readyIn (hR : 0 ≤ R ∧ R ≤ 100000) (hS : RelS μ c R u) (h : Q (0, u 10 + u 11) μ) : MetP mX2_readyIn [(102, c), (0, R)] μ Q := by
  obtain ⟨-, ⟨-, -, h4⟩, h3, -⟩ := hS
  have h0 := h3 0 (by omega) (by omega)
  rw [Int.add_zero] at h0
  refine MetP.go snX2_readyIn [] 100 rfl rfl rfl rfl (fun _ => ?_)
  intro x1 e1
  obtain rfl := e1.trans h4
  refine ⟨by omega, by omega, ?_⟩
  refine ⟨by omega, fun x2 e2 => ?_⟩
  obtain rfl : x2 = u 11 := e2.trans h0
  exact h
end X1
