section X13
variable {μ : Mem} {c q h R : Int} {g u : Int → Int} {v : Mem} {Q : PV → Mem → Prop}
theorem qX2_copy_loop {n : Int} {μ0 : Mem} (hn : 0 ≤ n ∧ n ≤ 3) (hdis : c + 12 ≤ q ∨ q + 12 ≤ c) (h2 : μ0 c 2 = n)
    (hq : ∀ μ', (∀ j, 0 ≤ j → j < n → μ' (c + 2 + 1 + 2 * j) 2 = μ0 (q + 2 + 1 + 2 * j) 2 ∧ ∀ b, 0 ≤ b → b < 32 → μ' (c + 2 + 1 + 2 * j + 1) b = μ0 (q + 2 + 1 + 2 * j + 1) b) → (∀ a b, ¬ (∃ j, 0 ≤ j ∧ j < n ∧ ((a = c + 2 + 1 + 2 * j ∧ b = 2) ∨ a = c + 2 + 1 + 2 * j + 1)) → μ' a b = μ0 a b) → Q (9, 0) μ') : ∀ (d : Nat) (m : Int) (μ' : Mem), 0 ≤ m → m + d = n → (∀ j, 0 ≤ j → j < m → μ' (c + 2 + 1 + 2 * j) 2 = μ0 (q + 2 + 1 + 2 * j) 2 ∧ ∀ b, 0 ≤ b → b < 32 → μ' (c + 2 + 1 + 2 * j + 1) b = μ0 (q + 2 + 1 + 2 * j + 1) b) → (∀ a b, ¬ (∃ j, 0 ≤ j ∧ j < m ∧ ((a = c + 2 + 1 + 2 * j ∧ b = 2) ∨ a = c + 2 + 1 + 2 * j + 1)) → μ' a b = μ0 a b) → OkE mX2_copyFrom 99 [(102, c), (102, q), (0, m)] [] μ' Q := by
  intro d
  induction d with
  | zero =>
    intro m μ' h0 hd k1 k2
    refine OkE.go snX2_copyFrom [99] 100 ?_
    intro y1 e1
    obtain rfl := e1.trans ((k2 c 2 (by rintro ⟨j, p1, p2, p3⟩; omega)).trans h2)
    refine ⟨by omega, by omega, fun _ => ?_, fun q => absurd q (by omega)⟩
    have e : m = y1 := by omega
    subst e
    exact hq μ' k1 k2
  | succ d ih =>
    intro m μ' h0 hd k1 k2
    refine OkE.go snX2_copyFrom [99] 100 ?_
    intro y1 e1
    obtain rfl := e1.trans ((k2 c 2 (by rintro ⟨j, p1, p2, p3⟩; omega)).trans h2)
    refine ⟨by omega, by omega, fun q => absurd q (by omega), fun _ => ?_⟩
    refine ⟨by omega, ?_⟩
    refine ⟨by omega, ?_⟩
    intro y2 e2
    obtain rfl := e2.trans (k2 _ _ (by rintro ⟨j, p1, p2, p3⟩; dsimp only at p3; omega))
    intro μ1 d1
    have n1 : ∀ a b, ¬ (a = c + 2 + 1 + 2 * m ∧ b = 2) → μ1 a b = μ' a b := fun a b hn => by rw [d1]; exact upm_ne hn
    refine ⟨by omega, ?_⟩
    refine ⟨by omega, ?_⟩
    refine ⟨by omega, fun μ2 d2 => ?_⟩
    have n2 : ∀ a b, ¬ (a = c + 2 + 1 + 2 * m + 1) → μ2 a b = μ1 a b := fun a b hn => by rw [d2]; dsimp only; rw [if_neg (by omega)]
    have v2 : ∀ b, 0 ≤ b → b < 32 → μ2 (c + 2 + 1 + 2 * m + 1) b = μ0 (q + 2 + 1 + 2 * m + 1) b := fun b p1 p2 => by
      rw [d2]
      dsimp only
      rw [if_pos ⟨rfl, p1, p2⟩, n1 _ _ (by omega)]
      exact k2 _ _ (by rintro ⟨j, p1, p2, p3⟩; omega)
    exact ih (m + 1) μ2 (by omega) (by omega) (fun j p1 p2 => by
      by_cases hj : j = m
      · subst hj
        refine ⟨?_, v2⟩
        rw [n2 _ _ (by omega), d1]; exact upm_at _ _ _ _
      · obtain ⟨a1, a2⟩ := k1 j p1 (by omega)
        refine ⟨?_, fun b p3 p4 => ?_⟩
        · rw [n2 _ _ (by omega), n1 _ _ (by omega)]; exact a1
        · rw [n2 _ _ (by omega), n1 _ _ (by omega)]; exact a2 b p3 p4) (fun a b hn => by
      rw [n2 a b (fun e => hn ⟨m, h0, by omega, Or.inr e⟩), n1 a b (fun e => hn ⟨m, h0, by omega, Or.inl e⟩)]
      exact k2 a b (fun ⟨j, p1, p2, p3⟩ => hn ⟨j, p1, by omega, p3⟩))
/-- a Service holds what another one holds -/
theorem RelS_copy {μ' : Mem} (hS : RelS μ q R u) (h9 : 0 ≤ u 9 ∧ u 9 ≤ 3) (hR : 0 ≤ R) (c1 : ∀ b, 0 ≤ b → b < 9 → μ' (c + 1) b = μ (q + 1) b) (c0 : ∀ b, (b = 2 ∨ b = 3 ∨ b = 4 ∨ b = 8 ∨ b = 9 ∨ b = 10 ∨ b = 11) → μ' c b = μ q b) (c9 : ∀ b, 0 ≤ b → b < 8 → μ' (c + 9) b = μ (q + 9) b) (c10 : ∀ b, 0 ≤ b → b < 8 → μ' (c + 10) b = μ (q + 10) b) (c11 : ∀ b, 0 ≤ b → b < 4 → μ' (c + 11) b = μ (q + 11) b) (cm : ∀ j, 0 ≤ j → j < u 9 → (μ' (c + 2 + 1 + 2 * j) 0 = μ (q + 2 + 1 + 2 * j) 0 ∧ μ' (c + 2 + 1 + 2 * j) 1 = μ (q + 2 + 1 + 2 * j) 1 ∧ μ' (c + 2 + 1 + 2 * j) 2 = μ (q + 2 + 1 + 2 * j) 2) ∧ ∀ b, 0 ≤ b → b < 32 → μ' (c + 2 + 1 + 2 * j + 1) b = μ (q + 2 + 1 + 2 * j + 1) b) : RelS μ' c R u := by
  obtain ⟨h1, h2, h3, h4, h5, h6, h7, h8, h10, h11⟩ := hS
  refine ⟨fun k p r => ?_, ?_, fun k p r => ?_, ?_, fun k p r d => ?_, h6, fun k p r => ?_, ?_, ?_, fun m p r => ?_⟩
  · rw [c1 k p r]; exact h1 k p r
  · rw [c0 2 (by omega), c0 3 (by omega), c0 4 (by omega)]; exact h2
  · rw [c9 _ (by omega) (by omega)]; exact h3 k p r
  · rw [c9 _ (by omega) (by omega)]; exact h4
  · rw [c10 _ (by omega) (by omega)]; exact h5 k p r d
  · obtain ⟨k1, k2, k3⟩ := h7 k p r
    refine ⟨fun hk => ?_, k2, k3⟩
    rw [c11 _ (by omega) (by omega)]
    exact k1 hk
  · rw [c0 8 (by omega)]; exact h8
  · rw [c0 9 (by omega), c0 10 (by omega), c0 11 (by omega)]; exact h10
  · obtain ⟨⟨a1, a2, a3⟩, a4⟩ := cm m p r
    obtain ⟨b1, b2, b3, b4⟩ := h11 m p r
    rw [a1, a2, a3]
    refine ⟨b1, b2, b3, fun k p2 q2 t => ?_⟩
    rw [a4 _ (by omega) (by omega)]
    exact b4 k p2 q2 t
theorem qX2_copyFrom (hdis : c + 12 ≤ q ∨ q + 12 ≤ c) (hR : 0 ≤ R) (hS : RelS μ q R u) (h9 : 0 ≤ u 9 ∧ u 9 ≤ 3) (hq : ∀ μ', RelS μ' c R u → FrS μ μ' c → Q (9, 0) μ') : MetP mX2_copyFrom [(102, c), (102, q)] μ Q := by
  have hmc : μ q 2 = u 9 := hS.2.1.1
  refine MetP.go snX2_copyFrom [99] 100 rfl rfl rfl rfl (fun _ => ?_)
  refine qX2_takeShape h9 hdis hmc (fun μ1 s1 s2 s3 s4 => ?_)
  have o1 : ∀ a b, ¬ (c ≤ a ∧ a < c + 12) → μ1 a b = μ a b := fun a b hn => s4 a b (by omega) (by omega) (by rintro ⟨j, p1, p2, p3, p4⟩; omega)
  have t1 : ∀ a b, (a = c ∧ b ≠ 2) ∨ c + 9 ≤ a → μ1 a b = μ a b := fun a b hn => s4 a b (by omega) (by omega) (by rintro ⟨j, p1, p2, p3, p4⟩; omega)
  intro y1 e1
  obtain rfl := e1.trans (o1 q 3 (by omega))
  intro μ2 d2
  have n2 : ∀ a b, ¬ (a = c ∧ b = 3) → μ2 a b = μ1 a b := fun a b hn => by rw [d2]; exact upm_ne hn
  intro y2 e2
  obtain rfl := e2.trans ((n2 q 4 (by omega)).trans (o1 q 4 (by omega)))
  intro μ3 d3
  have n3 : ∀ a b, ¬ (a = c ∧ b = 4) → μ3 a b = μ2 a b := fun a b hn => by rw [d3]; exact upm_ne hn
  have o3 : ∀ a b, ¬ (c ≤ a ∧ a < c + 12) → μ3 a b = μ a b := fun a b hn => (n3 a b (by omega)).trans ((n2 a b (by omega)).trans (o1 a b hn))
  refine ⟨by omega, fun μ4 d4 => ?_⟩
  have n4 : ∀ a b, ¬ (a = c + 9) → μ4 a b = μ3 a b := fun a b hn => by rw [d4]; dsimp only; rw [if_neg (by omega)]
  have v4 : ∀ b, 0 ≤ b → b < 8 → μ4 (c + 9) b = μ (q + 9) b := fun b p1 p2 => by rw [d4]; dsimp only; rw [if_pos ⟨rfl, p1, p2⟩]; exact o3 _ _ (by omega)
  have o4 : ∀ a b, ¬ (c ≤ a ∧ a < c + 12) → μ4 a b = μ a b := fun a b hn => (n4 a b (by omega)).trans (o3 a b hn)
  refine ⟨by omega, fun μ5 d5 => ?_⟩
  have n5 : ∀ a b, ¬ (a = c + 10) → μ5 a b = μ4 a b := fun a b hn => by rw [d5]; dsimp only; rw [if_neg (by omega)]
  have v5 : ∀ b, 0 ≤ b → b < 8 → μ5 (c + 10) b = μ (q + 10) b := fun b p1 p2 => by rw [d5]; dsimp only; rw [if_pos ⟨rfl, p1, p2⟩]; exact o4 _ _ (by omega)
  have o5 : ∀ a b, ¬ (c ≤ a ∧ a < c + 12) → μ5 a b = μ a b := fun a b hn => (n5 a b (by omega)).trans (o4 a b hn)
  refine ⟨by omega, fun μ6 d6 => ?_⟩
  have n6 : ∀ a b, ¬ (a = c + 11) → μ6 a b = μ5 a b := fun a b hn => by rw [d6]; dsimp only; rw [if_neg (by omega)]
  have v6 : ∀ b, 0 ≤ b → b < 4 → μ6 (c + 11) b = μ (q + 11) b := fun b p1 p2 => by rw [d6]; dsimp only; rw [if_pos ⟨rfl, p1, p2⟩]; exact o5 _ _ (by omega)
  have o6 : ∀ a b, ¬ (c ≤ a ∧ a < c + 12) → μ6 a b = μ a b := fun a b hn => (n6 a b (by omega)).trans (o5 a b hn)
  intro y3 e3
  obtain rfl := e3.trans (o6 q 8 (by omega))
  intro μ7 d7
  have n7 : ∀ a b, ¬ (a = c ∧ b = 8) → μ7 a b = μ6 a b := fun a b hn => by rw [d7]; exact upm_ne hn
  intro y4 e4
  obtain rfl := e4.trans ((n7 q 9 (by omega)).trans (o6 q 9 (by omega)))
  intro μ8 d8
  have n8 : ∀ a b, ¬ (a = c ∧ b = 9) → μ8 a b = μ7 a b := fun a b hn => by rw [d8]; exact upm_ne hn
  intro y5 e5
  obtain rfl := e5.trans ((n8 q 10 (by omega)).trans ((n7 q 10 (by omega)).trans (o6 q 10 (by omega))))
  intro μ9 d9
  have n9 : ∀ a b, ¬ (a = c ∧ b = 10) → μ9 a b = μ8 a b := fun a b hn => by rw [d9]; exact upm_ne hn
  intro y6 e6
  obtain rfl := e6.trans ((n9 q 11 (by omega)).trans ((n8 q 11 (by omega)).trans ((n7 q 11 (by omega)).trans (o6 q 11 (by omega)))))
  intro μa da
  have na : ∀ a b, ¬ (a = c ∧ b = 11) → μa a b = μ9 a b := fun a b hn => by rw [da]; exact upm_ne hn
  have A : ∀ a b, ¬ (a = c ∧ 8 ≤ b) → μa a b = μ6 a b := fun a b hn => (na a b (by omega)).trans ((n9 a b (by omega)).trans ((n8 a b (by omega)).trans (n7 a b (by omega))))
  have A3 : ∀ a b, ¬ (a = c ∧ 8 ≤ b) → a < c + 9 → μa a b = μ3 a b := fun a b hn h2 => (A a b hn).trans ((n6 a b (by omega)).trans ((n5 a b (by omega)).trans (n4 a b (by omega))))
  have A1 : ∀ a b, ¬ (a = c ∧ 8 ≤ b) → ¬ (a = c ∧ (b = 3 ∨ b = 4)) → a < c + 9 → μa a b = μ1 a b := fun a b hn h3 h2 => (A3 a b hn h2).trans ((n3 a b (by omega)).trans (n2 a b (by omega)))
  have oa : ∀ a b, ¬ (c ≤ a ∧ a < c + 12) → μa a b = μ a b := fun a b hn => (A a b (by omega)).trans (o6 a b hn)
  refine qX2_copy_loop (μ0 := μa) h9 hdis (by rw [A1 _ _ (by omega) (by omega) (by omega)]; exact s2) (fun μ' k1 k2 => ?_) (u 9).toNat 0 μa (by omega) (by omega) (fun j p1 p2 => by omega) (fun a b _ => rfl)
  have ke : ∀ a b, (a ≤ c + 2 ∨ c + 9 ≤ a) → μ' a b = μa a b := fun a b hn => k2 a b (by rintro ⟨j, p1, p2, p3⟩; omega)
  refine hq μ' (RelS_copy hS h9 hR (fun b p1 p2 => ?_) (fun b hb => ?_) (fun b p1 p2 => ?_) (fun b p1 p2 => ?_) (fun b p1 p2 => ?_) (fun j p1 p2 => ?_)) (fun a b hn => ?_)
  · rw [ke _ _ (by omega), A1 _ _ (by omega) (by omega) (by omega)]; exact s1 b p1 p2
  · rw [ke _ _ (by omega)]
    rcases hb with rfl | rfl | rfl | rfl | rfl | rfl | rfl
    · rw [A1 _ _ (by omega) (by omega) (by omega), s2, hmc]
    · rw [A3 _ _ (by omega) (by omega), n3 _ _ (by omega), d2]; exact upm_at _ _ _ _
    · rw [A3 _ _ (by omega) (by omega), d3]; exact upm_at _ _ _ _
    · rw [na _ _ (by omega), n9 _ _ (by omega), n8 _ _ (by omega), d7]; exact upm_at _ _ _ _
    · rw [na _ _ (by omega), n9 _ _ (by omega), d8]; exact upm_at _ _ _ _
    · rw [na _ _ (by omega), d9]; exact upm_at _ _ _ _
    · rw [da]; exact upm_at _ _ _ _
  · rw [ke _ _ (by omega), A _ _ (by omega), n6 _ _ (by omega), n5 _ _ (by omega)]; exact v4 b p1 p2
  · rw [ke _ _ (by omega), A _ _ (by omega), n6 _ _ (by omega)]; exact v5 b p1 p2
  · rw [ke _ _ (by omega), A _ _ (by omega)]; exact v6 b p1 p2
  · obtain ⟨a1, a2⟩ := k1 j p1 p2
    obtain ⟨b1, b2⟩ := s3 j p1 p2
    refine ⟨⟨?_, ?_, ?_⟩, fun b p3 p4 => ?_⟩
    · rw [k2 _ _ (by rintro ⟨j', p1, p2, p3⟩; omega), A1 _ _ (by omega) (by omega) (by omega)]; exact b1
    · rw [k2 _ _ (by rintro ⟨j', p1, p2, p3⟩; omega), A1 _ _ (by omega) (by omega) (by omega)]; exact b2
    · rw [a1]; exact oa _ _ (by omega)
    · rw [a2 b p3 p4]; exact oa _ _ (by omega)
  · rw [k2 a b (by rintro ⟨j, p1, p2, p3⟩; omega)]; exact oa a b hn
end X13
