/-- a House holds head g and services v -/
def RelH (μ : Mem) (h : Int) (g : Int → Int) (v : Mem) : Prop := RelG μ h g ∧ ∀ s, 0 ≤ s → s < g 7 → RelS μ (h + 2 + 1 + 12 * s) (g 6) (v s)
theorem BV_9 {u : Int → Int} (hB : BV u) : 0 ≤ u 9 ∧ u 9 ≤ 3 := by
  obtain ⟨-, -, -, -, -, -, -, -, -, -, h9, -⟩ := hB
  omega
theorem RelH.frame {μ μ' : Mem} {h : Int} {g : Int → Int} {v : Mem} (hH : RelH μ h g v) (h7 : g 7 ≤ 4) (hB : ∀ s, 0 ≤ s → s < g 7 → BV (v s)) (hf : ∀ a b, h ≤ a → a < h + 51 → μ' a b = μ a b) : RelH μ' h g v := by
  obtain ⟨⟨a1, a2, a3, a4⟩, a5⟩ := hH
  refine ⟨⟨fun k p q => ?_, ?_, ?_, ?_⟩, fun s p q => ?_⟩
  · rw [hf _ _ (by omega) (by omega)]; exact a1 k p q
  · rw [hf _ _ (by omega) (by omega)]; exact a2
  · rw [hf _ _ (by omega) (by omega)]; exact a3
  · rw [hf _ _ (by omega) (by omega)]; exact a4
  · exact (a5 s p q).frame (BV_9 (hB s p q)).2 (fun a b p1 p2 => hf a b (by omega) (by omega))
section X14
variable {μ : Mem} {h p R : Int} {g u : Int → Int} {v : Mem} {Q : PV → Mem → Prop}
theorem qX0_copy_loop {μ0 : Mem} (hdis : h + 51 ≤ p ∨ p + 51 ≤ h) (h7 : 0 ≤ g 7 ∧ g 7 ≤ 4) (h6 : 0 ≤ g 6) (hB : ∀ s, 0 ≤ s → s < g 7 → BV (v s)) (hS : ∀ s, 0 ≤ s → s < g 7 → RelS μ0 (p + 2 + 1 + 12 * s) (g 6) (v s)) (hG : RelG μ0 h g)
    (hq : ∀ μ', RelH μ' h g v → FrH μ0 μ' h → Q (9, 0) μ') : ∀ (d : Nat) (m : Int) (μ' : Mem), 0 ≤ m → m + d = g 7 → (∀ s, 0 ≤ s → s < m → RelS μ' (h + 2 + 1 + 12 * s) (g 6) (v s)) → (∀ a b, ¬ (h + 3 ≤ a ∧ a < h + 51) → μ' a b = μ0 a b) → OkE mX0_copyFrom 40 [(100, h), (100, p), (0, m)] [] μ' Q := by
  intro d
  induction d with
  | zero =>
    intro m μ' h0 hd k1 k2
    refine OkE.go snX0_copyFrom [40] 100 ?_
    intro y1 e1
    obtain rfl : y1 = g 7 := e1.trans ((k2 h 2 (by omega)).trans hG.2.1)
    refine ⟨by omega, by omega, fun _ => ?_, fun q => absurd q (by omega)⟩
    have e : m = g 7 := by omega
    subst e
    obtain ⟨a1, a2, a3, a4⟩ := hG
    refine hq μ' ⟨⟨fun k p q => ?_, ?_, ?_, ?_⟩, k1⟩ (fun a b hn => k2 a b (by omega))
    · rw [k2 _ _ (by omega)]; exact a1 k p q
    · rw [k2 _ _ (by omega)]; exact a2
    · rw [k2 _ _ (by omega)]; exact a3
    · rw [k2 _ _ (by omega)]; exact a4
  | succ d ih =>
    intro m μ' h0 hd k1 k2
    refine OkE.go snX0_copyFrom [40] 100 ?_
    intro y1 e1
    obtain rfl : y1 = g 7 := e1.trans ((k2 h 2 (by omega)).trans hG.2.1)
    refine ⟨by omega, by omega, fun q => absurd q (by omega), fun _ => ?_⟩
    refine ⟨by omega, ?_⟩
    refine ⟨by omega, ?_⟩
    have b9 := BV_9 (hB m h0 (by omega))
    refine qX2_copyFrom (R := g 6) (u := v m) (by omega) h6 ((hS m h0 (by omega)).frame b9.2 (fun a b p1 p2 => k2 a b (by omega))) b9 (fun μ2 r2 f2 => ?_)
    refine ih (m + 1) μ2 (by omega) (by omega) (fun s p1 p2 => ?_) (fun a b hn => ?_)
    · by_cases hs : s = m
      · subst hs; exact r2
      · exact (k1 s p1 (by omega)).frame (BV_9 (hB s p1 (by omega))).2 (fun a b p3 p4 => f2 a b (by omega))
    · rw [f2 a b (by omega)]; exact k2 a b hn
theorem qX0_copyFrom (hdis : h + 51 ≤ p ∨ p + 51 ≤ h) (h7 : 0 ≤ g 7 ∧ g 7 ≤ 4) (h6 : 0 ≤ g 6) (hB : ∀ s, 0 ≤ s → s < g 7 → BV (v s)) (hH : RelH μ p g v)
    (hq : ∀ μ', RelH μ' h g v → FrH μ μ' h → Q (9, 0) μ') : MetP mX0_copyFrom [(100, h), (100, p)] μ Q := by
  obtain ⟨⟨a1, a2, a3, a4⟩, a5⟩ := hH
  refine MetP.go snX0_copyFrom [40] 100 rfl rfl rfl rfl (fun _ => ?_)
  refine ⟨by omega, fun μ1 d1 => ?_⟩
  have n1 : ∀ a b, ¬ (a = h + 1) → μ1 a b = μ a b := fun a b hn => by rw [d1]; dsimp only; rw [if_neg (by omega)]
  have v1 : ∀ b, 0 ≤ b → b < 5 → μ1 (h + 1) b = g b := fun b p1 p2 => by
    rw [d1]
    dsimp only
    rw [if_pos ⟨rfl, p1, p2⟩]; exact a1 b p1 p2
  intro x2 e2
  obtain rfl : x2 = g 7 := e2.trans ((n1 p 2 (by omega)).trans a2)
  intro μ3 d3
  have n3 : ∀ a b, ¬ (a = h ∧ b = 2) → μ3 a b = μ1 a b := fun a b hn => by rw [d3]; exact upm_ne hn
  intro x4 e4
  obtain rfl : x4 = g 5 := e4.trans ((n3 p 3 (by omega)).trans ((n1 p 3 (by omega)).trans a3))
  intro μ5 d5
  have n5 : ∀ a b, ¬ (a = h ∧ b = 3) → μ5 a b = μ3 a b := fun a b hn => by rw [d5]; exact upm_ne hn
  intro x6 e6
  obtain rfl : x6 = g 6 := e6.trans ((n5 p 4 (by omega)).trans ((n3 p 4 (by omega)).trans ((n1 p 4 (by omega)).trans a4)))
  intro μ7 d7
  have n7 : ∀ a b, ¬ (a = h ∧ b = 4) → μ7 a b = μ5 a b := fun a b hn => by rw [d7]; exact upm_ne hn
  have f7 : ∀ a b, ¬ (h ≤ a ∧ a < h + 2) → μ7 a b = μ a b := fun a b hn => by
    rw [n7 a b (by omega), n5 a b (by omega), n3 a b (by omega), n1 a b (by omega)]
  have w7 : RelG μ7 h g := by
    refine ⟨fun k p q => ?_, ?_, ?_, ?_⟩
    · rw [n7 _ _ (by omega), n5 _ _ (by omega), n3 _ _ (by omega)]; exact v1 k p q
    · rw [n7 _ _ (by omega), n5 _ _ (by omega), d3]; exact upm_at _ _ _ _
    · rw [n7 _ _ (by omega), d5]; exact upm_at _ _ _ _
    · rw [d7]; exact upm_at _ _ _ _
  refine qX0_copy_loop (μ0 := μ7) hdis h7 h6 hB (fun s p1 p2 => (a5 s p1 p2).frame (BV_9 (hB s p1 p2)).2 (fun a b p3 p4 => f7 a b (by omega))) w7 (fun μ' r f => hq μ' r (fun a b hn => (f a b hn).trans (f7 a b (by omega)))) (g 7).toNat 0 μ7 (by omega) (by omega) (fun s p1 p2 => by omega) (fun a b hn => rfl)
end X14
