/-- the numbers and measures of a Service in memory -/
def SHP (μ : Mem) (c : Int) (u : Int → Int) : Prop := (∀ k, 0 ≤ k → k < 9 → μ (c + 1) k = u k) ∧ μ c 2 = u 9 ∧ ∀ m, 0 ≤ m → m < u 9 → μ (c + 2 + 1 + 2 * m) 0 = u (35 + 21 * m) ∧ μ (c + 2 + 1 + 2 * m) 1 = u (36 + 21 * m)
/-- a row of a service that begins -/
def FRS (u : Int → Int) : Prop := u 10 = u 0 ∧ (∀ k, 11 ≤ k → k ≤ 34 → u k = 0) ∧ ∀ m, 0 ≤ m → m < u 9 → u (37 + 21 * m) = -1
section T69
variable {N : Int} {μ ν : Mem} {g u : Int → Int} {v W : Mem} {Q : PV → Mem → Prop} {w x s c R t n m h : Int}
theorem SHP.frame {μ' : Mem} (hS : SHP μ c u) (h9 : u 9 ≤ 3) (hf : ∀ a b, c ≤ a → a < c + 12 → μ' a b = μ a b) : SHP μ' c u := by
  obtain ⟨a1, a2, a3⟩ := hS
  refine ⟨fun k p q => ?_, ?_, fun m p q => ?_⟩
  · rw [hf _ _ (by omega) (by omega)]; exact a1 k p q
  · rw [hf _ _ (by omega) (by omega)]; exact a2
  · rw [hf _ _ (by omega) (by omega), hf _ _ (by omega) (by omega)]; exact a3 m p q
theorem qJ7_fill {a : Int} (h : ∀ μ', (∀ j, 0 ≤ j → j < 8 → μ' a j = x) → (∀ d j, ¬ (d = a) → μ' d j = μ d j) → Q (9, 0) μ') : MetP mJ7_fill_53178 [(1108, a), (0, x)] μ Q := by
  have L : ∀ (l : Int), l = 8 → ∀ (d : Nat) (i : Int) (μ' : Mem), 0 ≤ i → i + d = 8 → (∀ j, 0 ≤ j → j < i → μ' a j = x) → (∀ d j, ¬ (d = a) → μ' d j = μ d j) → OkE mJ7_fill_53178 5 [(1108, a), (0, x), (0, i), (0, l)] [] μ' Q := by
    intro l hl d
    induction d with
    | zero =>
      intro i μ' h0 hd k1 k2
      refine OkE.go snJ7_fill_53178 [5] 100 ?_
      refine ⟨by omega, by omega, fun _ => ?_, fun q => absurd q (by omega)⟩
      exact h μ' (fun j p q => k1 j p (by omega)) k2
    | succ d ih =>
      intro i μ' h0 hd k1 k2
      refine OkE.go snJ7_fill_53178 [5] 100 ?_
      refine ⟨by omega, by omega, fun q => absurd q (by omega), fun _ => ?_⟩
      refine ⟨by omega, fun μ2 d2 => ?_⟩
      have d2' : μ2 = upm μ' a i x := d2
      refine ih (i + 1) μ2 (by omega) (by omega) (fun j p q => ?_) (fun d j hd => ?_)
      · rw [d2']
        by_cases hj : j = i
        · subst hj; exact upm_at _ _ _ _
        · rw [upm_ne (by omega)]; exact k1 j p (by omega)
      · rw [d2', upm_ne (by omega)]; exact k2 d j hd
  refine MetP.go snJ7_fill_53178 [5] 100 rfl rfl rfl rfl (fun _ => ?_)
  exact L _ (by first | omega | (dsimp only; omega)) 8 0 μ (by omega) (by omega) (fun j p q => absurd q (by omega)) (fun _ _ _ => rfl)
theorem qX2_begin (hS : SHP μ c u) (hF : FRS u) (h9 : 0 ≤ u 9 ∧ u 9 ≤ 3) (hq : ∀ μ', RelS μ' c 0 u → (∀ a b, ¬ (c ≤ a ∧ a < c + 12) → μ' a b = μ a b) → Q (9, 0) μ') : MetP mX2_begin [(102, c)] μ Q := by
  obtain ⟨a1, a2, a3⟩ := hS
  obtain ⟨f1, f2, f3⟩ := hF
  have L : ∀ (d : Nat) (i : Int) (μ' : Mem), 0 ≤ i → i + d = u 9 → (∀ k, 0 ≤ k → k < 9 → μ' (c + 1) k = u k) → μ' c 2 = u 9 → (∀ m, 0 ≤ m → m < u 9 → μ' (c + 2 + 1 + 2 * m) 0 = u (35 + 21 * m) ∧ μ' (c + 2 + 1 + 2 * m) 1 = u (36 + 21 * m)) → (∀ m, 0 ≤ m → m < i → μ' (c + 2 + 1 + 2 * m) 2 = -1) → (μ' c 3 = u 0 ∧ μ' c 4 = u 0 ∧ μ' c 8 = 0 ∧ μ' c 9 = 0 ∧ μ' c 10 = 0 ∧ μ' c 11 = 0) → (∀ j, 0 ≤ j → j < 8 → μ' (c + 9) j = 0) → (∀ a b, ¬ (c ≤ a ∧ a < c + 12) → μ' a b = μ a b) → OkE mX2_begin 48 [(102, c), (0, i)] [] μ' Q := by
    intro d
    induction d with
    | zero =>
      intro i μ' h0 hd k1 k2 k3 k4 k5 k6 k7
      refine OkE.go snX2_begin [48] 100 ?_
      intro x1 e1
      obtain rfl : x1 = u 9 := e1.trans k2
      refine ⟨by omega, by omega, fun _ => ?_, fun q => absurd q (by omega)⟩
      obtain ⟨p3, p4, p8, p9, p10, p11⟩ := k5
      refine hq μ' ⟨k1, ⟨k2, ?_, ?_⟩, fun k p q => ?_, ?_, fun k p q r => absurd r (by omega), ?_, fun k p q => ?_, ⟨Or.inl ⟨f2 31 (by omega) (by omega), p8⟩, by omega⟩, ⟨?_, ?_, ?_⟩, fun m p q => ?_⟩ k7
      · rw [p3]
        unfold cntV
        rw [f1, f2 11 (by omega) (by omega), f2 12 (by omega) (by omega), f2 13 (by omega) (by omega), f2 14 (by omega) (by omega), f2 15 (by omega) (by omega), f2 16 (by omega) (by omega), f2 17 (by omega) (by omega)]
        omega
      · rw [p4, f1]
      · rw [k6 _ (by omega) (by omega), f2 _ (by omega) (by omega)]
      · exact k6 _ (by omega) (by omega)
      · rw [f2 24 (by omega) (by omega)]; omega
      · refine ⟨fun r => absurd r (by omega), fun _ => ⟨f2 _ (by omega) (by omega), f2 _ (by omega) (by omega)⟩, Or.inl (f2 _ (by omega) (by omega))⟩
      · rw [p9, f2 32 (by omega) (by omega)]
      · rw [p10, f2 33 (by omega) (by omega)]
      · rw [p11, f2 34 (by omega) (by omega)]
      · obtain ⟨m1, m2⟩ := k3 m p q
        refine ⟨m1, m2, ?_, fun k p q r => absurd r (by omega)⟩
        rw [k4 m p (by omega), f3 m p q]
    | succ d ih =>
      intro i μ' h0 hd k1 k2 k3 k4 k5 k6 k7
      refine OkE.go snX2_begin [48] 100 ?_
      intro x1 e1
      obtain rfl : x1 = u 9 := e1.trans k2
      refine ⟨by omega, by omega, fun q => absurd q (by omega), fun _ => ?_⟩
      refine ⟨by omega, ?_⟩
      intro μ2 d2
      have n2 : ∀ a b, ¬ (a = c + 2 + 1 + 2 * i ∧ b = 2) → μ2 a b = μ' a b := fun a b hn => by rw [d2]; exact upm_ne hn
      have v2 : μ2 (c + 2 + 1 + 2 * i) 2 = -1 := by rw [d2]; exact upm_at _ _ _ _
      refine ih (i + 1) μ2 (by omega) (by omega) (fun k p q => ?_) ?_ (fun m p q => ?_) (fun m p q => ?_) ?_ (fun j p q => ?_) (fun a b hn => ?_)
      · rw [n2 _ _ (by omega)]; exact k1 k p q
      · rw [n2 _ _ (by omega)]; exact k2
      · rw [n2 _ _ (by omega), n2 _ _ (by omega)]; exact k3 m p q
      · by_cases hm : m = i
        · subst hm; exact v2
        · rw [n2 _ _ (by omega)]; exact k4 m p (by omega)
      · rw [n2 _ _ (by omega), n2 _ _ (by omega), n2 _ _ (by omega), n2 _ _ (by omega), n2 _ _ (by omega), n2 _ _ (by omega)]; exact k5
      · rw [n2 _ _ (by omega)]; exact k6 j p q
      · rw [n2 _ _ (by omega)]; exact k7 a b hn
  refine MetP.go snX2_begin [48] 100 rfl rfl rfl rfl (fun _ => ?_)
  refine ⟨by omega, fun x1 e1 => ?_⟩
  obtain rfl : x1 = u 0 := e1.trans (a1 0 (by omega) (by omega))
  intro μ1 d1
  have n1 : ∀ a b, ¬ (a = c ∧ b = 3) → μ1 a b = μ a b := fun a b hn => by rw [d1]; exact upm_ne hn
  have v1 : μ1 c 3 = u 0 := by rw [d1]; exact upm_at _ _ _ _
  intro x2 e2
  obtain rfl : x2 = u 0 := e2.trans v1
  intro μ2 d2
  have n2 : ∀ a b, ¬ (a = c ∧ b = 4) → μ2 a b = μ1 a b := fun a b hn => by rw [d2]; exact upm_ne hn
  have v2 : μ2 c 4 = u 0 := by rw [d2]; exact upm_at _ _ _ _
  refine qJ7_fill (a := c + 9) (fun μ3 v3 n3 => ?_)
  intro μ4 d4
  have n4 : ∀ a b, ¬ (a = c ∧ b = 8) → μ4 a b = μ3 a b := fun a b hn => by rw [d4]; exact upm_ne hn
  have v4 : μ4 c 8 = 0 := by rw [d4]; exact upm_at _ _ _ _
  intro μ5 d5
  have n5 : ∀ a b, ¬ (a = c ∧ b = 9) → μ5 a b = μ4 a b := fun a b hn => by rw [d5]; exact upm_ne hn
  have v5 : μ5 c 9 = 0 := by rw [d5]; exact upm_at _ _ _ _
  intro μ6 d6
  have n6 : ∀ a b, ¬ (a = c ∧ b = 10) → μ6 a b = μ5 a b := fun a b hn => by rw [d6]; exact upm_ne hn
  have v6 : μ6 c 10 = 0 := by rw [d6]; exact upm_at _ _ _ _
  intro μ7 d7
  have n7 : ∀ a b, ¬ (a = c ∧ b = 11) → μ7 a b = μ6 a b := fun a b hn => by rw [d7]; exact upm_ne hn
  have v7 : μ7 c 11 = 0 := by rw [d7]; exact upm_at _ _ _ _
  have N7 : ∀ a b, ¬ (a = c ∧ (b = 3 ∨ b = 4 ∨ b = 8 ∨ b = 9 ∨ b = 10 ∨ b = 11)) → ¬ (a = c + 9) → μ7 a b = μ a b := fun a b p q => by
    rw [n7 a b (by omega), n6 a b (by omega), n5 a b (by omega), n4 a b (by omega), n3 a b q, n2 a b (by omega), n1 a b (by omega)]
  refine L (u 9).toNat 0 μ7 (by omega) (by omega) (fun k p q => ?_) ?_ (fun m p q => ?_) (fun m p q => absurd q (by omega)) ⟨?_, ?_, ?_, ?_, ?_, ?_⟩ (fun j p q => ?_) (fun a b hn => N7 a b (by omega) (by omega))
  · rw [N7 _ _ (by omega) (by omega)]; exact a1 k p q
  · rw [N7 _ _ (by omega) (by omega)]; exact a2
  · rw [N7 _ _ (by omega) (by omega), N7 _ _ (by omega) (by omega)]; exact a3 m p q
  · rw [n7 _ _ (by omega), n6 _ _ (by omega), n5 _ _ (by omega), n4 _ _ (by omega), n3 _ _ (by omega), n2 _ _ (by omega)]; exact v1
  · rw [n7 _ _ (by omega), n6 _ _ (by omega), n5 _ _ (by omega), n4 _ _ (by omega), n3 _ _ (by omega)]; exact v2
  · rw [n7 _ _ (by omega), n6 _ _ (by omega), n5 _ _ (by omega)]; exact v4
  · rw [n7 _ _ (by omega), n6 _ _ (by omega)]; exact v5
  · rw [n7 _ _ (by omega)]; exact v6
  · exact v7
  · rw [n7 _ _ (by omega), n6 _ _ (by omega), n5 _ _ (by omega), n4 _ _ (by omega)]; exact v3 j p q
theorem qX0_begin (h7 : 0 ≤ g 7 ∧ g 7 ≤ 4) (hg : ∀ k, 0 ≤ k → k < 5 → μ (h + 1) k = g k) (e7 : μ h 2 = g 7) (e6 : g 6 = 0) (e5 : g 5 = g 2) (hS : ∀ s, 0 ≤ s → s < g 7 → SHP μ (h + 2 + 1 + 12 * s) (v s) ∧ FRS (v s) ∧ (0 ≤ v s 9 ∧ v s 9 ≤ 3)) (hq : ∀ μ', RelH μ' h g v → FrH μ μ' h → Q (9, 0) μ') : MetP mX0_begin [(100, h)] μ Q := by
  have L : ∀ (d : Nat) (i : Int) (μ' : Mem), 0 ≤ i → i + d = g 7 → RelG μ' h g → (∀ s, 0 ≤ s → s < i → RelS μ' (h + 2 + 1 + 12 * s) 0 (v s)) → (∀ s, i ≤ s → s < g 7 → SHP μ' (h + 2 + 1 + 12 * s) (v s)) → FrH μ μ' h → OkE mX0_begin 17 [(100, h), (0, i)] [] μ' Q := by
    intro d
    induction d with
    | zero =>
      intro i μ' h0 hd k1 k2 k3 k4
      refine OkE.go snX0_begin [17] 100 ?_
      intro x1 e1
      obtain rfl : x1 = g 7 := e1.trans k1.2.1
      refine ⟨by omega, by omega, fun _ => ?_, fun q => absurd q (by omega)⟩
      refine hq μ' ⟨k1, fun s p q => ?_⟩ k4
      rw [e6]; exact k2 s p (by omega)
    | succ d ih =>
      intro i μ' h0 hd k1 k2 k3 k4
      refine OkE.go snX0_begin [17] 100 ?_
      intro x1 e1
      obtain rfl : x1 = g 7 := e1.trans k1.2.1
      refine ⟨by omega, by omega, fun q => absurd q (by omega), fun _ => ?_⟩
      refine ⟨by omega, ?_⟩
      obtain ⟨-, f2, f3⟩ := hS i h0 (by omega)
      refine qX2_begin (k3 i (by omega) (by omega)) f2 f3 (fun μ2 r2 n2 => ?_)
      refine ih (i + 1) μ2 (by omega) (by omega) ⟨fun k p q => ?_, ?_, ?_, ?_⟩ (fun s p q => ?_) (fun s p q => ?_) (fun a b hn => ?_)
      · rw [n2 _ _ (by omega)]; exact k1.1 k p q
      · rw [n2 _ _ (by omega)]; exact k1.2.1
      · rw [n2 _ _ (by omega)]; exact k1.2.2.1
      · rw [n2 _ _ (by omega)]; exact k1.2.2.2
      · by_cases hs : s = i
        · subst hs; exact r2
        · exact (k2 s p (by omega)).frame (hS s p (by omega)).2.2.2 (fun a b p q => n2 a b (by omega))
      · exact (k3 s (by omega) q).frame (hS s (by omega) q).2.2.2 (fun a b p q => n2 a b (by omega))
      · rw [n2 a b (by omega)]; exact k4 a b hn
  refine MetP.go snX0_begin [17] 100 rfl rfl rfl rfl (fun _ => ?_)
  intro μ1 d1
  have n1 : ∀ a b, ¬ (a = h ∧ b = 4) → μ1 a b = μ a b := fun a b hn => by rw [d1]; exact upm_ne hn
  have v1 : μ1 h 4 = 0 := by rw [d1]; exact upm_at _ _ _ _
  refine ⟨by omega, fun x1 e1 => ?_⟩
  obtain rfl : x1 = g 2 := e1.trans ((n1 (h + 1) 2 (by omega)).trans (hg 2 (by omega) (by omega)))
  intro μ2 d2
  have n2 : ∀ a b, ¬ (a = h ∧ b = 3) → μ2 a b = μ1 a b := fun a b hn => by rw [d2]; exact upm_ne hn
  have v2 : μ2 h 3 = g 2 := by rw [d2]; exact upm_at _ _ _ _
  refine L (g 7).toNat 0 μ2 (by omega) (by omega) ⟨fun k p q => ?_, ?_, ?_, ?_⟩ (fun s p q => absurd q (by omega)) (fun s p q => ?_) (fun a b hn => ?_)
  · rw [n2 _ _ (by omega), n1 _ _ (by omega)]; exact hg k p q
  · rw [n2 _ _ (by omega), n1 _ _ (by omega)]; exact e7
  · rw [v2, e5]
  · rw [n2 _ _ (by omega), v1, e6]
  · exact (hS s p q).1.frame (hS s p q).2.2.2 (fun a b p q => by rw [n2 a b (by omega), n1 a b (by omega)])
  · rw [n2 a b (by omega), n1 a b (by omega)]
end T69
