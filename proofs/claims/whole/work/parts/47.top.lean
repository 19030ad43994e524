/-- what a house keeps: its numbers in their bounds, at most N rounds played -/
def GOOD (N : Int) (g : Int → Int) (v : Mem) : Prop := BG g ∧ g 6 ≤ N ∧ ∀ s, 0 ≤ s → s < g 7 → BV (v s)
theorem GOOD.le {N N' : Int} {g : Int → Int} {v : Mem} (h : GOOD N g v) (hl : N ≤ N') : GOOD N' g v := ⟨h.1, by have := h.2.1; omega, h.2.2⟩
/-- the kept houses -/
def KEPT (N : Int) (μ ν : Mem) (n t : Int) : Prop := ∀ k, 1 ≤ k → k ≤ t → ∃ g v, RwM ν k g v ∧ GOOD N g v ∧ RelH μ (106 + 51 * ((n + k - t - 1) % 10)) g v
theorem kept_note {N : Int} {μ μ' ν ν' : Mem} {n t : Int} {g : Int → Int} {v : Mem} (hn : 0 ≤ n ∧ n ≤ 9) (ht : 0 ≤ t ∧ t ≤ 10) (hK : KEPT N μ ν n t) (h0 : RwM ν 0 g v) (hg : GOOD N g v)
    (a1 : RelH μ' (106 + 51 * n) g v) (a2 : ∀ a b, ¬ (106 + 51 * n ≤ a ∧ a < 106 + 51 * n + 51) → ¬ (a = 0 ∧ (b = 4 ∨ b = 5)) → μ' a b = μ a b)
    (b1 : ∀ i, 0 ≤ i → i < 400 → ν' 1 (400 * min (t + 1) 10 + i) = ν 1 i) (b2 : ∀ k i, 1 ≤ k → k < min (t + 1) 10 → 0 ≤ i → i < 400 → ν' 1 (400 * k + i) = ν 1 (400 * (k + (if t = 10 then 1 else 0)) + i)) : KEPT N μ' ν' (if n = 9 then 0 else n + 1) (min (t + 1) 10) := by
  intro k p1 p2
  by_cases hk : k = min (t + 1) 10
  · refine ⟨g, v, fun i q1 q2 => ?_, hg, ?_⟩
    · rw [hk, b1 i q1 q2, ← h0 i q1 q2]; congr 1; omega
    · have e : ((if n = 9 then 0 else n + 1) + k - min (t + 1) 10 - 1) % 10 = n := by split <;> omega
      rw [e]; exact a1
  · by_cases ht' : t = 10
    · obtain ⟨g', v', c1, c2, c3⟩ := hK (k + 1) (by omega) (by omega)
      refine ⟨g', v', fun i q1 q2 => ?_, c2, ?_⟩
      · rw [b2 k i p1 (by omega) q1 q2, if_pos ht', c1 i q1 q2]
      · have e : ((if n = 9 then 0 else n + 1) + k - min (t + 1) 10 - 1) % 10 = (n + (k + 1) - t - 1) % 10 := by split <;> omega
        rw [e]
        have b7 := c2.1.2.2.2.2.2.2.2
        exact c3.frame b7.2 c2.2.2 (fun a b q1 q2 => a2 a b (by omega) (by omega))
    · obtain ⟨g', v', c1, c2, c3⟩ := hK k p1 (by omega)
      refine ⟨g', v', fun i q1 q2 => ?_, c2, ?_⟩
      · rw [b2 k i p1 (by omega) q1 q2, if_neg ht', ← c1 i q1 q2]; congr 1; omega
      · have e : ((if n = 9 then 0 else n + 1) + k - min (t + 1) 10 - 1) % 10 = (n + k - t - 1) % 10 := by split <;> omega
        rw [e]
        have b7 := c2.1.2.2.2.2.2.2.2
        exact c3.frame b7.2 c2.2.2 (fun a b q1 q2 => a2 a b (by omega) (by omega))
/-- text and latest fault -/
def TXT (μ ν : Mem) : Prop := (0 ≤ ν 0 11 ∧ ν 0 11 ≤ 160) ∧ μ 1 1 = ν 0 11 ∧ (∀ i, 0 ≤ i → i < ν 0 11 → μ 2 i = ν 10 i ∧ 0 ≤ ν 10 i ∧ ν 10 i ≤ 255) ∧ μ 1 6 = ν 0 12
theorem TXT.keep {μ μ' ν ν' : Mem} (h : TXT μ ν) (hμ : ∀ a b, a = 1 ∨ a = 2 → μ' a b = μ a b) (h11 : ν' 0 11 = ν 0 11) (h12 : ν' 0 12 = ν 0 12) (h10 : ∀ i, ν' 10 i = ν 10 i) : TXT μ' ν' := by
  obtain ⟨a1, a2, a3, a4⟩ := h
  refine ⟨by rw [h11]; exact a1, by rw [h11, hμ 1 1 (by omega)]; exact a2, fun i p q => ?_, by rw [h12, hμ 1 6 (by omega)]; exact a4⟩
  rw [hμ 2 i (by omega), h10]
  rw [h11] at q
  exact a3 i p q
/-- the class's object and the reference's object hold the same after N calls -/
def REL (N : Int) (μ ν : Mem) : Prop := TXT μ ν ∧ (0 ≤ μ 0 4 ∧ μ 0 4 ≤ 9) ∧
  ((μ 0 6 = 0 ∧ ν 1 7 = 0) ∨ (μ 0 6 = 1 ∧ ∃ t g v, (0 ≤ t ∧ t ≤ 10) ∧ μ 0 5 = t ∧ ν 0 1 = t ∧ RwM ν 0 g v ∧ GOOD N g v ∧ RelH μ 3 g v ∧ KEPT N μ ν (μ 0 4) t))
theorem KEPT.le {N N' : Int} {μ ν : Mem} {n t : Int} (h : KEPT N μ ν n t) (hl : N ≤ N') : KEPT N' μ ν n t := fun k p q => by
  obtain ⟨g, v, a, b, c⟩ := h k p q
  exact ⟨g, v, a, b.le hl, c⟩
theorem REL.le {N N' : Int} {μ ν : Mem} (h : REL N μ ν) (hl : N ≤ N') : REL N' μ ν := by
  obtain ⟨a1, a2, a3⟩ := h
  refine ⟨a1, a2, a3.imp id ?_⟩
  rintro ⟨b0, t, g, v, b1, b2, b3, b4, b5, b6, b7⟩
  exact ⟨b0, t, g, v, b1, b2, b3, b4, b5.le hl, b6, b7.le hl⟩
section T47
variable {N : Int} {μ ν : Mem} {Q : PV → Mem → Prop}
theorem qX5_isHouse (h0 : ν 1 7 ≤ 0 → Q (0, 0) ν) (h1 : 0 < ν 1 7 → Q (0, 1) ν) (hb : ν 1 7 ≤ 100 ∧ -100 ≤ ν 1 7) : MetP mX5_isHouse [(105, 0)] ν Q := by
  refine MetP.go snX5_isHouse [] 100 rfl rfl rfl rfl (fun _ => ?_)
  refine ⟨by omega, fun x1 e1 => ?_⟩
  obtain rfl : x1 = ν 1 7 := e1
  refine ⟨by omega, fun q => ?_, fun q => ?_⟩
  · exact ⟨by omega, h0 q⟩
  · exact ⟨by omega, h1 (by omega)⟩
theorem ag_fault (h : REL N μ ν) : MetP mX5_fault [(105, 0)] ν (fun b ν' => MetP mX4_fault [(104, 0)] μ (fun a μ' => a = b ∧ REL N μ' ν')) := by
  refine MetP.go snX5_fault [] 100 rfl rfl rfl rfl (fun _ => ?_)
  intro x1 e1
  refine MetP.go snX4_fault [] 100 rfl rfl rfl rfl (fun _ => ?_)
  intro x2 e2
  have e : x2 = x1 := e2.trans (h.1.2.2.2.trans e1.symm)
  subst e
  exact ⟨rfl, h⟩
end T47
