section X6
variable {μ : Mem} {c h R : Int} {g u : Int → Int} {Q : PV → Mem → Prop}
/-- close's last loop: the pasts -/
theorem qX2_close_loop {l2 : Int} {μ0 : Mem} (hR : 0 ≤ R ∧ R ≤ 100000) (h9 : 0 ≤ u 9 ∧ u 9 ≤ 3) (h2 : μ0 c 2 = u 9) (hv : ∀ m, 0 ≤ m → m < u 9 → μ0 (c + 2 + 1 + 2 * m) 2 = u (37 + 21 * m))
    (hq : ∀ μ', (∀ m, 0 ≤ m → m < u 9 → μ' (c + 2 + 1 + 2 * m + 1) (R % 32) = u (37 + 21 * m)) → (∀ a b, ¬ (b = R % 32 ∧ ∃ m, 0 ≤ m ∧ m < u 9 ∧ a = c + 2 + 1 + 2 * m + 1) → μ' a b = μ0 a b) → Q (9, 0) μ') : ∀ (d : Nat) (m : Int) (μ' : Mem), 0 ≤ m → m + d = u 9 → (∀ j, 0 ≤ j → j < m → μ' (c + 2 + 1 + 2 * j + 1) (R % 32) = u (37 + 21 * j)) → (∀ a b, ¬ (b = R % 32 ∧ ∃ j, 0 ≤ j ∧ j < m ∧ a = c + 2 + 1 + 2 * j + 1) → μ' a b = μ0 a b) → OkE mX2_close 100 [(102, c), (0, R), (0, l2), (0, m)] [] μ' Q := by
  intro d
  induction d with
  | zero =>
    intro m μ' h0 hd k1 k2
    refine OkE.go snX2_close [100] 100 ?_
    intro x1 e1
    obtain rfl := e1.trans ((k2 c 2 (by rintro ⟨-, j, q1, q2, q3⟩; omega)).trans h2)
    refine ⟨by omega, by omega, fun _ => ?_, fun q => absurd q (by omega)⟩
    have e : m = u 9 := by omega
    subst e
    exact hq μ' k1 k2
  | succ d ih =>
    intro m μ' h0 hd k1 k2
    refine OkE.go snX2_close [100] 100 ?_
    intro x1 e1
    obtain rfl := e1.trans ((k2 c 2 (by rintro ⟨-, j, q1, q2, q3⟩; omega)).trans h2)
    refine ⟨by omega, by omega, fun q => absurd q (by omega), fun _ => ?_⟩
    refine ⟨by omega, ?_⟩
    refine ⟨by omega, by omega, ?_⟩
    refine ⟨by omega, ?_⟩
    intro x2 e2
    obtain rfl : x2 = u (37 + 21 * m) := e2.trans ((k2 _ _ (by rintro ⟨-, j, q1, q2, q3⟩; omega)).trans (hv m h0 (by omega)))
    refine ⟨by omega, fun μ1 d1 => ?_⟩
    exact ih (m + 1) μ1 (by omega) (by omega) (fun j q1 q2 => by
      rw [d1]
      by_cases hj : j = m
      · subst hj
        exact upm_at _ _ _ _
      · exact (upm_ne (by omega)).trans (k1 j q1 (by omega))) (fun a b hn => by
      rw [d1]
      refine (upm_ne ?_).trans (k2 a b ?_)
      · rintro ⟨q1, q2⟩
        exact hn ⟨q2, m, h0, by omega, q1⟩
      · rintro ⟨q1, j, q2, q3, q4⟩
        exact hn ⟨q1, j, q2, by omega, q4⟩)
/-- the row one round on -/
theorem RelS_close {μ' : Mem} {x got gave : Int} (hR : 0 ≤ R ∧ R ≤ 100000) (hS : RelS μ c R u) (hB : BV u) (h11 : u 11 = 0) (hg : (0 ≤ got ∧ got ≤ 20) ∧ (0 ≤ gave ∧ gave ≤ 20) ∧ (got = 0 ∨ gave = 0)) (hmv : μ (c + 11) (R % 4) = got - gave)
    (f9 : μ' c 9 = u 32 + cntV u) (f10 : μ' c 10 = u 33 + max (x - u 10) 0) (f11 : μ' c 11 = u 34 + (if (0 < got ∧ u 31 < 0) ∨ (0 < gave ∧ 0 < u 31) then 1 else 0)) (f8 : μ' c 8 = if got - gave = 0 then μ c 8 else got - gave) (fw : μ' (c + 10) (R % 8) = x) (fp : ∀ m, 0 ≤ m → m < u 9 → μ' (c + 2 + 1 + 2 * m + 1) (R % 32) = u (37 + 21 * m))
    (he : ∀ a b, c ≤ a → a < c + 12 → ¬ (a = c ∧ 8 ≤ b) → ¬ (a = c + 10 ∧ b = R % 8) → ¬ (b = R % 32 ∧ ∃ m, 0 ≤ m ∧ m < u 9 ∧ a = c + 2 + 1 + 2 * m + 1) → μ' a b = μ a b) : RelS μ' c (R + 1) (sumsV u x got gave) := by
  have hB2 := hB
  obtain ⟨-, -, -, -, -, -, -, -, -, -, h9, -⟩ := hB2
  obtain ⟨h1, ⟨h2, h2b, h2c⟩, h3, h4, h5, h6, h7, h8, h10, h12⟩ := hS
  have e9 : sumsV u x got gave 9 = u 9 := sv_9 _ _ _
  have nb : ∀ a b, ¬ (∃ m, 0 ≤ m ∧ m < u 9 ∧ a = c + 2 + 1 + 2 * m + 1) → ¬ (b = R % 32 ∧ ∃ m, 0 ≤ m ∧ m < u 9 ∧ a = c + 2 + 1 + 2 * m + 1) := fun a b hn q => hn q.2
  refine ⟨fun k p q => ?_, ⟨?_, ?_, ?_⟩, fun k p q => ?_, ?_, fun k p q d => ?_, ?_, fun k p q => ?_, ?_, ⟨?_, ?_, ?_⟩, fun m p q => ?_⟩
  · rw [he _ _ (by omega) (by omega) (by omega) (by omega) (nb _ _ (by rintro ⟨m, q1, q2, q3⟩; omega)), h1 k p q]
    rcases (show k = 0 ∨ k = 1 ∨ k = 2 ∨ k = 3 ∨ k = 4 ∨ k = 5 ∨ k = 6 ∨ k = 7 ∨ k = 8 by omega) with rfl | rfl | rfl | rfl | rfl | rfl | rfl | rfl | rfl
    · rw [sv_0]
    · rw [sv_1]
    · rw [sv_2]
    · rw [sv_3]
    · rw [sv_4]
    · rw [sv_5]
    · rw [sv_6]
    · rw [sv_7]
    · rw [sv_8]
  · rw [he _ _ (by omega) (by omega) (by omega) (by omega) (nb _ _ (by rintro ⟨m, q1, q2, q3⟩; omega)), e9]; exact h2
  · rw [he _ _ (by omega) (by omega) (by omega) (by omega) (nb _ _ (by rintro ⟨m, q1, q2, q3⟩; omega)), cnt_sums, h2b]; omega
  · rw [he _ _ (by omega) (by omega) (by omega) (by omega) (nb _ _ (by rintro ⟨m, q1, q2, q3⟩; omega)), sv_10]; exact h2c
  · rw [he _ _ (by omega) (by omega) (by omega) (by omega) (nb _ _ (by rintro ⟨m, q1, q2, q3⟩; omega)), show R + 1 + k = R + (1 + k) by omega]
    rcases (show k = 0 ∨ k = 1 ∨ k = 2 ∨ k = 3 ∨ k = 4 ∨ k = 5 ∨ k = 6 by omega) with rfl | rfl | rfl | rfl | rfl | rfl | rfl
    · rw [h3 _ (by omega) (by omega)]; exact (sv_11 _ _ _).symm
    · rw [h3 _ (by omega) (by omega)]; exact (sv_12 _ _ _).symm
    · rw [h3 _ (by omega) (by omega)]; exact (sv_13 _ _ _).symm
    · rw [h3 _ (by omega) (by omega)]; exact (sv_14 _ _ _).symm
    · rw [h3 _ (by omega) (by omega)]; exact (sv_15 _ _ _).symm
    · rw [h3 _ (by omega) (by omega)]; exact (sv_16 _ _ _).symm
    · rw [show R + (1 + 6) = R + 7 by omega, h4]; exact (sv_17 _ _ _).symm
  · rw [he _ _ (by omega) (by omega) (by omega) (by omega) (nb _ _ (by rintro ⟨m, q1, q2, q3⟩; omega)), show (R + 1 + 7) % 8 = (R + 0) % 8 by omega, h3 0 (by omega) (by omega)]
    exact h11
  · rcases (show k = 0 ∨ k = 1 ∨ k = 2 ∨ k = 3 ∨ k = 4 by omega) with rfl | rfl | rfl | rfl | rfl
    · rw [show (R + 1 - 1 - 0) % 8 = R % 8 by omega, fw]; exact (sv_18 _ _ _).symm
    · rw [he _ _ (by omega) (by omega) (by omega) (by omega) (nb _ _ (by rintro ⟨m, q1, q2, q3⟩; omega)), show R + 1 - 1 - 1 = R - 1 - 0 by omega, h5 0 (by omega) (by omega) (by omega)]; exact (sv_19 _ _ _).symm
    · rw [he _ _ (by omega) (by omega) (by omega) (by omega) (nb _ _ (by rintro ⟨m, q1, q2, q3⟩; omega)), show R + 1 - 1 - 2 = R - 1 - 1 by omega, h5 1 (by omega) (by omega) (by omega)]; exact (sv_20 _ _ _).symm
    · rw [he _ _ (by omega) (by omega) (by omega) (by omega) (nb _ _ (by rintro ⟨m, q1, q2, q3⟩; omega)), show R + 1 - 1 - 3 = R - 1 - 2 by omega, h5 2 (by omega) (by omega) (by omega)]; exact (sv_21 _ _ _).symm
    · rw [he _ _ (by omega) (by omega) (by omega) (by omega) (nb _ _ (by rintro ⟨m, q1, q2, q3⟩; omega)), show R + 1 - 1 - 4 = R - 1 - 3 by omega, h5 3 (by omega) (by omega) (by omega)]; exact (sv_22 _ _ _).symm
  · rw [sv_24, h6]; split <;> omega
  · have hm0 := h7 0 (by omega) (by omega)
    have hm1 := h7 1 (by omega) (by omega)
    rw [show (25 : Int) + 0 = 25 from rfl, show (28 : Int) + 0 = 28 from rfl] at hm0
    rw [show (25 : Int) + 1 = 26 from rfl, show (28 : Int) + 1 = 29 from rfl] at hm1
    rcases (show k = 0 ∨ k = 1 ∨ k = 2 by omega) with rfl | rfl | rfl
    · rw [show (25 : Int) + 0 = 25 from rfl, show (28 : Int) + 0 = 28 from rfl, sv_25, sv_28]
      refine ⟨fun _ => ?_, fun hk => by omega, hg.2.2⟩
      rw [he _ _ (by omega) (by omega) (by omega) (by omega) (nb _ _ (by rintro ⟨m, q1, q2, q3⟩; omega)), show (R + 1 - 1 - 0) % 4 = R % 4 by omega]
      exact hmv
    · rw [show (25 : Int) + 1 = 26 from rfl, show (28 : Int) + 1 = 29 from rfl, sv_26, sv_29]
      refine ⟨fun hk => ?_, fun hk => hm0.2.1 (by omega), hm0.2.2⟩
      rw [he _ _ (by omega) (by omega) (by omega) (by omega) (nb _ _ (by rintro ⟨m, q1, q2, q3⟩; omega)), show R + 1 - 1 - 1 = R - 1 - 0 by omega]
      exact hm0.1 (by omega)
    · rw [show (25 : Int) + 2 = 27 from rfl, show (28 : Int) + 2 = 30 from rfl, sv_27, sv_30]
      refine ⟨fun hk => ?_, fun hk => hm1.2.1 (by omega), hm1.2.2⟩
      rw [he _ _ (by omega) (by omega) (by omega) (by omega) (nb _ _ (by rintro ⟨m, q1, q2, q3⟩; omega)), show R + 1 - 1 - 2 = R - 1 - 1 by omega]
      exact hm1.1 (by omega)
  · rw [f8, sv_31]
    by_cases hz : got - gave = 0
    · rw [if_pos hz, if_neg (by omega), if_neg (by omega)]; exact h8
    · rw [if_neg hz]
      by_cases hgp : 0 < got
      · rw [if_pos hgp]; omega
      · rw [if_neg hgp, if_pos (by omega)]; omega
  · rw [f9, sv_32]
  · rw [f10, sv_33]
  · rw [f11, sv_34]
  · rw [e9] at q
    obtain ⟨a1, a2, a3, a4⟩ := h12 m p q
    rw [sv_hi _ _ _ (by omega), sv_hi _ _ _ (by omega), sv_hi _ _ _ (by omega), (shPm_ktv p).1, (shPm_ktv p).2.1, (shPm_ktv p).2.2]
    rw [he _ _ (by omega) (by omega) (by omega) (by omega) (nb _ _ (by rintro ⟨m, q1, q2, q3⟩; omega)), he _ _ (by omega) (by omega) (by omega) (by omega) (nb _ _ (by rintro ⟨m, q1, q2, q3⟩; omega)), he _ _ (by omega) (by omega) (by omega) (by omega) (nb _ _ (by rintro ⟨m, q1, q2, q3⟩; omega))]
    refine ⟨a1, a2, a3, fun k p2 q2 t => ?_⟩
    rw [sv_hi _ _ _ (by omega), shPm_past ⟨p, q, by omega⟩ ⟨p2, q2⟩]
    by_cases hk : k = 0
    · subst hk
      rw [show (R + 1 - 1 - 0) % 32 = R % 32 by omega, fp m p q, Int.add_zero]
    · rw [he _ _ (by omega) (by omega) (by omega) (by omega) (by rintro ⟨q1, -⟩; omega), show R + 1 - 1 - k = R - 1 - (k - 1) by omega, a4 (k - 1) (by omega) (by omega) (by omega)]
      congr 1
      omega
end X6
