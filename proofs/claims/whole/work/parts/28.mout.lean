/-! the giving out, service by service: each at most once, at its turn -/
theorem inN_other {x : GS} {t : Int} {s : Int} : ∀ k : Nat, (x.2.2 7 s ≠ t ∨ (k : Int) ≤ s) → (inN t k x).2.1 s = x.2.1 s ∧ (inN t k x).2.2 8 s = x.2.2 8 s
  | 0, _ => ⟨rfl, rfl⟩
  | k + 1, h => by
    have ih := inN_other (x := x) (t := t) (s := s) k (by omega)
    have h7 := congrFun ((inN_keep t k x).2 7 (by omega)) (k : Int)
    unfold inN
    split
    · rename_i hc
      rw [h7] at hc
      have hne : s ≠ (k : Int) := by
        rintro rfl
        omega
      refine ⟨((gone_keep _ _).2.2 s hne).trans ih.1, ?_⟩
      show upm (inN t k x).2.2 8 (k : Int) _ 8 s = _
      rw [upm_ne (by omega)]
      exact ih.2
    · exact ih
theorem inN_served {x : GS} {B t : Int} {s : Int} (hO : OKG x B) (hs : 0 ≤ s ∧ s < x.1 7) (hp : x.2.2 7 s = t) : ∀ k : Nat, s < (k : Int) → (k : Int) ≤ x.1 7 → ∃ wm gt : Int, (0 ≤ wm ∧ wm ≤ gt) ∧ gt ≤ max (x.2.2 5 s - x.2.2 6 s) 0 ∧ (inN t k x).2.1 s = getV (x.2.1 s) wm gt (x.1 1) ∧ (inN t k x).2.2 8 s = gt
  | 0, h, _ => absurd h (by omega)
  | k + 1, h, hk => by
    have h7 := congrFun ((inN_keep t k x).2 7 (by omega)) (k : Int)
    by_cases he : s = (k : Int)
    · have ih := inN_other (x := x) (t := t) (s := s) k (Or.inr (by omega))
      have hok := inN_ok (t := t) hO k (by omega)
      have hb := gotV_bd hok (s := (k : Int)) ⟨by omega, by rw [(inN_keep t k x).1 7 (by omega)]; omega⟩
      subst he
      have hg : gotV (inN t k x) (k : Int) ≤ max (x.2.2 5 (k : Int) - x.2.2 6 (k : Int)) 0 := by
        unfold gotV someV
        rw [congrFun ((inN_keep t k x).2 5 (by omega)) (k : Int), congrFun ((inN_keep t k x).2 6 (by omega)) (k : Int)]
        omega
      unfold inN
      rw [if_pos (by rw [h7]; exact hp)]
      refine ⟨warmV (inN t k x) (k : Int), gotV (inN t k x) (k : Int), ⟨hb.2.1, by unfold warmV; omega⟩, hg, ?_, ?_⟩
      · show setS (inN t k x).2.1 (k : Int) _ (k : Int) = _
        rw [setS_at, ih.1, (inN_keep t k x).1 1 (by omega)]
      · exact upm_at _ _ _ _
    · obtain ⟨wm, gt, h1, h2, h3, h4⟩ := inN_served hO hs hp k (by omega) (by omega)
      refine ⟨wm, gt, h1, h2, ?_⟩
      unfold inN
      split
      · refine ⟨((gone_keep _ _).2.2 s he).trans h3, ?_⟩
        show upm (inN t k x).2.2 8 (k : Int) _ 8 s = _
        rw [upm_ne (by omega)]
        exact h4
      · exact ⟨h3, h4⟩
theorem outN_at {x : GS} {B : Int} {n : Nat} {s : Int} (hO : OKG x B) (hn : (n : Int) = x.1 7) (hs : 0 ≤ s ∧ s < x.1 7) : ∀ T : Nat, (¬ (0 ≤ x.2.2 7 s ∧ x.2.2 7 s < T) → (outN n T x).2.1 s = x.2.1 s ∧ (outN n T x).2.2 8 s = x.2.2 8 s) ∧ (0 ≤ x.2.2 7 s ∧ x.2.2 7 s < T → ∃ wm gt : Int, (0 ≤ wm ∧ wm ≤ gt) ∧ gt ≤ max (x.2.2 5 s - x.2.2 6 s) 0 ∧ (outN n T x).2.1 s = getV (x.2.1 s) wm gt (x.1 1) ∧ (outN n T x).2.2 8 s = gt)
  | 0 => ⟨fun _ => ⟨rfl, rfl⟩, fun h => absurd h (by omega)⟩
  | T + 1 => by
    obtain ⟨i1, i2⟩ := outN_at hO hn hs T
    have hok := outN_ok hO hn T
    obtain ⟨k1, k2⟩ := outN_keep n T x
    have k7 := congrFun (k2 7 (by omega)) s
    refine ⟨fun h => ?_, fun h => ?_⟩
    · obtain ⟨a, b⟩ := inN_other (x := outN n T x) (t := (T : Int)) (s := s) n (Or.inl (by rw [k7]; omega))
      obtain ⟨c, d⟩ := i1 (by omega)
      exact ⟨a.trans c, b.trans d⟩
    · by_cases he : x.2.2 7 s = (T : Int)
      · obtain ⟨c, d⟩ := i1 (by omega)
        obtain ⟨wm, gt, h1, h2, h3, h4⟩ := inN_served (t := (T : Int)) hok (s := s) (by rw [k1 7 (by omega)]; exact hs) (by rw [k7]; exact he) n (by omega) (by rw [k1 7 (by omega)]; omega)
        refine ⟨wm, gt, h1, ?_, ?_, h4⟩
        · rw [congrFun (k2 5 (by omega)) s, congrFun (k2 6 (by omega)) s] at h2
          exact h2
        · rw [c, k1 1 (by omega)] at h3
          exact h3
      · obtain ⟨wm, gt, h1, h2, h3, h4⟩ := i2 (by omega)
        obtain ⟨a, b⟩ := inN_other (x := outN n T x) (t := (T : Int)) (s := s) n (Or.inl (by rw [k7]; exact he))
        exact ⟨wm, gt, h1, h2, a.trans h3, b.trans h4⟩
theorem lfN_eq {u : Int → Int} {x : Int} (hu : ∀ k, 11 ≤ k → k ≤ 17 → 0 ≤ u k) (hx : 0 ≤ x) : ∀ j : Nat, j ≤ 7 → lfN u x j = max (x - sumN (fun k => u (17 - k)) j) 0
  | 0, _ => by simp [lfN, sumN]; omega
  | j + 1, hj => by
    have ih := lfN_eq hu hx j (by omega)
    have h2 := hu (17 - (j : Int)) (by omega) (by omega)
    show lfN u x j - min (u (17 - (j : Int))) (lfN u x j) = max (x - (sumN (fun k => u (17 - k)) j + u (17 - (j : Int)))) 0
    rw [ih]
    omega
/-- a row after giving up, its bounds -/
theorem giveV_nn {u : Int → Int} {x : Int} (hB : BV u) (hx : 0 ≤ x ∧ x ≤ cntV u) : 0 ≤ giveV u x 10 ∧ ∀ k, 11 ≤ k → k ≤ 17 → 0 ≤ giveV u x k := by
  have hu : ∀ k, 11 ≤ k → k ≤ 17 → 0 ≤ u k := by
    intro k h1 h2
    obtain ⟨-, -, -, -, -, -, -, -, -, -, -, hb, -⟩ := hB
    rcases (show k = 11 ∨ k = 12 ∨ k = 13 ∨ k = 14 ∨ k = 15 ∨ k = 16 ∨ k = 17 by omega) with rfl | rfl | rfl | rfl | rfl | rfl | rfl <;> omega
  constructor
  · have h7 := lfN_eq (x := x) hu hx.1 7 (by omega)
    simp [sumN] at h7
    have h10 : 0 ≤ u 10 := (cntV_bd hB).2.2.1
    unfold giveV
    rw [upg_at, h7]
    unfold cntV at hx
    omega
  · intro k h1 h2
    unfold giveV giveN
    rw [upg_ne (by omega), if_pos (by omega)]
    have := hu k h1 h2
    omega
