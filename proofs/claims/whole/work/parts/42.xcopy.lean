section X12
variable {μ : Mem} {c q h R : Int} {g u : Int → Int} {v : Mem} {Q : PV → Mem → Prop}
theorem qX2_takeShape_loop {n : Int} {μ0 : Mem} (hn : 0 ≤ n ∧ n ≤ 3) (hdis : c + 12 ≤ q ∨ q + 12 ≤ c) (h2 : μ0 c 2 = n)
    (hq : ∀ μ', (∀ j, 0 ≤ j → j < n → μ' (c + 2 + 1 + 2 * j) 0 = μ0 (q + 2 + 1 + 2 * j) 0 ∧ μ' (c + 2 + 1 + 2 * j) 1 = μ0 (q + 2 + 1 + 2 * j) 1) → (∀ a b, ¬ (∃ j, 0 ≤ j ∧ j < n ∧ a = c + 2 + 1 + 2 * j ∧ (b = 0 ∨ b = 1)) → μ' a b = μ0 a b) → Q (9, 0) μ') : ∀ (d : Nat) (m : Int) (μ' : Mem), 0 ≤ m → m + d = n → (∀ j, 0 ≤ j → j < m → μ' (c + 2 + 1 + 2 * j) 0 = μ0 (q + 2 + 1 + 2 * j) 0 ∧ μ' (c + 2 + 1 + 2 * j) 1 = μ0 (q + 2 + 1 + 2 * j) 1) → (∀ a b, ¬ (∃ j, 0 ≤ j ∧ j < m ∧ a = c + 2 + 1 + 2 * j ∧ (b = 0 ∨ b = 1)) → μ' a b = μ0 a b) → OkE mX2_takeShape 25 [(102, c), (102, q), (0, m)] [] μ' Q := by
  intro d
  induction d with
  | zero =>
    intro m μ' h0 hd k1 k2
    refine OkE.go snX2_takeShape [25] 100 ?_
    intro y1 e1
    obtain rfl := e1.trans ((k2 c 2 (by rintro ⟨j, p1, p2, p3, p4⟩; omega)).trans h2)
    refine ⟨by omega, by omega, fun _ => ?_, fun q => absurd q (by omega)⟩
    have e : m = y1 := by omega
    subst e
    exact hq μ' k1 k2
  | succ d ih =>
    intro m μ' h0 hd k1 k2
    refine OkE.go snX2_takeShape [25] 100 ?_
    intro y1 e1
    obtain rfl := e1.trans ((k2 c 2 (by rintro ⟨j, p1, p2, p3, p4⟩; omega)).trans h2)
    refine ⟨by omega, by omega, fun q => absurd q (by omega), fun _ => ?_⟩
    refine ⟨by omega, ?_⟩
    refine ⟨by omega, ?_⟩
    intro y2 e2
    obtain rfl := e2.trans (k2 _ _ (by rintro ⟨j, p1, p2, p3, p4⟩; dsimp only at p3; omega))
    intro μ1 d1
    have n1 : ∀ a b, ¬ (a = c + 2 + 1 + 2 * m ∧ b = 0) → μ1 a b = μ' a b := fun a b hn => by rw [d1]; exact upm_ne hn
    refine ⟨by omega, ?_⟩
    refine ⟨by omega, ?_⟩
    intro y3 e3
    obtain rfl := e3.trans ((n1 _ _ (by dsimp only; omega)).trans (k2 _ _ (by rintro ⟨j, p1, p2, p3, p4⟩; dsimp only at p3; omega)))
    intro μ2 d2
    have n2 : ∀ a b, ¬ (a = c + 2 + 1 + 2 * m ∧ b = 1) → μ2 a b = μ1 a b := fun a b hn => by rw [d2]; exact upm_ne hn
    exact ih (m + 1) μ2 (by omega) (by omega) (fun j p1 p2 => by
      by_cases hj : j = m
      · subst hj
        refine ⟨?_, ?_⟩
        · rw [n2 _ _ (by omega), d1]; exact upm_at _ _ _ _
        · rw [d2]; exact upm_at _ _ _ _
      · obtain ⟨a1, a2⟩ := k1 j p1 (by omega)
        refine ⟨?_, ?_⟩
        · rw [n2 _ _ (by omega), n1 _ _ (by omega)]; exact a1
        · rw [n2 _ _ (by omega), n1 _ _ (by omega)]; exact a2) (fun a b hn => by
      rw [n2 a b (fun e => hn ⟨m, h0, by omega, e.1, by omega⟩), n1 a b (fun e => hn ⟨m, h0, by omega, e.1, by omega⟩)]
      exact k2 a b (fun ⟨j, p1, p2, p3, p4⟩ => hn ⟨j, p1, by omega, p3, p4⟩))
theorem qX2_takeShape {n : Int} (hn : 0 ≤ n ∧ n ≤ 3) (hdis : c + 12 ≤ q ∨ q + 12 ≤ c) (h2 : μ q 2 = n)
    (hq : ∀ μ', (∀ b, 0 ≤ b → b < 9 → μ' (c + 1) b = μ (q + 1) b) → μ' c 2 = n → (∀ j, 0 ≤ j → j < n → μ' (c + 2 + 1 + 2 * j) 0 = μ (q + 2 + 1 + 2 * j) 0 ∧ μ' (c + 2 + 1 + 2 * j) 1 = μ (q + 2 + 1 + 2 * j) 1) → (∀ a b, ¬ (a = c + 1) → ¬ (a = c ∧ b = 2) → ¬ (∃ j, 0 ≤ j ∧ j < n ∧ a = c + 2 + 1 + 2 * j ∧ (b = 0 ∨ b = 1)) → μ' a b = μ a b) → Q (9, 0) μ') : MetP mX2_takeShape [(102, c), (102, q)] μ Q := by
  refine MetP.go snX2_takeShape [25] 100 rfl rfl rfl rfl (fun _ => ?_)
  refine ⟨by omega, fun μ1 d1 => ?_⟩
  have n1 : ∀ a b, ¬ (a = c + 1) → μ1 a b = μ a b := fun a b hn => by rw [d1]; dsimp only; rw [if_neg (by omega)]
  have v1 : ∀ b, 0 ≤ b → b < 9 → μ1 (c + 1) b = μ (q + 1) b := fun b p1 p2 => by rw [d1]; dsimp only; rw [if_pos ⟨rfl, p1, p2⟩]
  intro y1 e1
  obtain rfl := e1.trans ((n1 _ _ (by dsimp only; omega)).trans h2)
  intro μ2 d2
  have n2 : ∀ a b, ¬ (a = c ∧ b = 2) → μ2 a b = μ1 a b := fun a b hn => by rw [d2]; exact upm_ne hn
  exact qX2_takeShape_loop (μ0 := μ2) hn hdis (by rw [d2]; exact upm_at _ _ _ _) (fun μ' k1 k2 => hq μ' (fun b p1 p2 => by rw [k2 _ _ (by rintro ⟨j, p1, p2, p3, p4⟩; omega), n2 _ _ (by omega)]; exact v1 b p1 p2) (by rw [k2 _ _ (by rintro ⟨j, p1, p2, p3, p4⟩; omega), d2]; exact upm_at _ _ _ _) (fun j p1 p2 => by
    obtain ⟨a1, a2⟩ := k1 j p1 p2
    rw [n2 _ _ (by omega), n1 _ _ (by omega)] at a1
    rw [n2 _ _ (by omega), n1 _ _ (by omega)] at a2
    exact ⟨a1, a2⟩) (fun a b p1 p2 p3 => by rw [k2 a b p3, n2 a b p2, n1 a b p1])) y1.toNat 0 μ2 (by omega) (by omega) (fun j p1 p2 => by omega) (fun a b _ => rfl)
end X12
