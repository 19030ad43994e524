/-- slice a of the rows laid into slice b -/
def cpR (μ : Mem) (a b : Int) : Mem := fun c i => if c = 1 ∧ 400 * b ≤ i ∧ i < 400 * b + 400 then μ 1 (i - 400 * b + 400 * a) else μ c i
section M45
variable {μ : Mem} {a b r : Int} {g : Int → Int} {v W : Mem} {Q : PV → Mem → Prop}
theorem qX5_copies (ha : 0 ≤ a ∧ a ≤ 12) (hb : 0 ≤ b ∧ b ≤ 12) (hab : a ≠ b) (h : Q (9, 0) (cpR μ a b)) : MetP mX5_copies [(105, 0), (0, a), (0, b)] μ Q := by
  have L : ∀ (d : Nat) (m : Int) (μ' : Mem), 0 ≤ m → m + d = 400 → μ' = (fun c i => if c = 1 ∧ 400 * b ≤ i ∧ i < 400 * b + m then μ 1 (i - 400 * b + 400 * a) else μ c i) → OkE mX5_copies 2 [(105, 0), (0, a), (0, b), (0, m)] [] μ' Q := by
    intro d
    induction d with
    | zero =>
      intro m μ' h0 hd e
      refine OkE.go snX5_copies [2] 100 ?_
      refine ⟨by omega, by omega, fun _ => ?_, fun q => absurd q (by omega)⟩
      obtain rfl : m = 400 := by omega
      subst e
      exact h
    | succ d ih =>
      intro m μ' h0 hd e
      refine OkE.go snX5_copies [2] 100 ?_
      refine ⟨by omega, by omega, fun q => absurd q (by omega), fun _ => ?_⟩
      refine ⟨by omega, fun x1 e1 => ?_⟩
      refine ⟨by omega, fun μ2 d2 => ?_⟩
      refine ih (m + 1) μ2 (by omega) (by omega) ?_
      subst e
      rw [d2]
      funext c i
      have e2 : x1 = μ 1 (400 * a + m) := by
        refine e1.trans ?_
        dsimp only
        rw [if_neg (by omega)]; rfl
      by_cases hc : c = 1 ∧ i = 400 * b + m
      · obtain ⟨rfl, rfl⟩ := hc
        rw [if_pos (by omega)]
        refine (upm_at _ _ _ _).trans ?_
        rw [e2]
        congr 1
        omega
      · rw [upm_ne (by show ¬ (c = 1 ∧ i = 400 * b + m); exact hc)]
        by_cases hd : c = 1 ∧ 400 * b ≤ i ∧ i < 400 * b + m
        · rw [if_pos hd, if_pos (by omega)]
        · rw [if_neg hd, if_neg (by omega)]
  refine MetP.go snX5_copies [2] 100 rfl rfl rfl rfl (fun _ => ?_)
  refine L 400 0 μ (by omega) (by omega) ?_
  funext c i
  rw [if_neg (by omega)]
/-- slice a holds head g and services v -/
def RwM (μ : Mem) (a : Int) (g : Int → Int) (v : Mem) : Prop := ∀ i, 0 ≤ i → i < 400 → μ 1 (400 * a + i) = rowOf g v i
theorem RwM_wk (h : RwM μ a g v) : μ = wk μ a g v μ := by
  funext c i
  unfold wk
  by_cases hc : c = 1 ∧ 400 * a ≤ i ∧ i < 400 * a + 400
  · rw [if_pos hc, ← h (i - 400 * a) (by omega) (by omega), hc.1]; congr 1; omega
  · rw [if_neg hc]; split <;> rfl
theorem RwM_cp (h : RwM μ a g v) : cpR μ a b = wk μ b g v μ := by
  funext c i
  unfold wk cpR
  by_cases hc : c = 1 ∧ 400 * b ≤ i ∧ i < 400 * b + 400
  · rw [if_pos hc, if_pos hc, ← h (i - 400 * b) (by omega) (by omega)]; congr 1; omega
  · rw [if_neg hc, if_neg hc]; split <;> rfl
theorem qX5_triesRound (hR : RwM μ 0 g v) (hG : BG g) (hB : ∀ s, 0 ≤ s → s < g 7 → BV (v s)) (h : Q (9, 0) (wk μ 11 (doesX g v μ).1 (doesX g v μ).2.1 (doesX g v μ).2.2)) : MetP mX5_triesRound [(105, 0)] μ Q := by
  refine MetP.go snX5_triesRound [] 100 rfl rfl rfl rfl (fun _ => ?_)
  refine qX5_copies (by omega) (by omega) (by omega) ?_
  rw [RwM_cp hR]
  refine qX5_does (r := 11) (by omega) hG hB ?_
  exact h
theorem qX5_tries (hR : RwM μ 0 g v) (hn : 1 ≤ g 7 ∧ g 7 ≤ 4) (h : Q (9, 0) (wk μ 11 g (wakeTo v (g 7)) μ)) : MetP mX5_tries [(105, 0)] μ Q := by
  refine MetP.go snX5_tries [] 100 rfl rfl rfl rfl (fun _ => ?_)
  refine qX5_copies (by omega) (by omega) (by omega) ?_
  rw [RwM_cp hR]
  refine qX5_starts (r := 11) (by omega) hn ?_
  exact h
theorem qX5_notes {u : Int} (hu : 0 ≤ u ∧ u ≤ 10) (h1 : μ 0 1 = u)
    (h : ∀ μ', μ' 0 1 = min (u + 1) 10 → (∀ i, 0 ≤ i → i < 400 → μ' 1 (400 * min (u + 1) 10 + i) = μ 1 i) → (∀ k i, 1 ≤ k → k < min (u + 1) 10 → 0 ≤ i → i < 400 → μ' 1 (400 * k + i) = μ 1 (400 * (k + (if u = 10 then 1 else 0)) + i)) → (∀ i, i < 400 ∨ 4400 ≤ i → μ' 1 i = μ 1 i) → (∀ c i, c ≠ 1 → ¬ (c = 0 ∧ i = 1) → μ' c i = μ c i) → Q (9, 0) μ') : MetP mX5_notes [(105, 0)] μ Q := by
  have J : ∀ z μ1 u1, 0 ≤ u1 → u1 ≤ 9 → μ1 0 1 = u1 → Q (9, 0) (cpR (upm μ1 0 1 (u1 + 1)) 0 (u1 + 1)) → OkE mX5_notes 41 [(105, 0), z] [] μ1 Q := by
    intro z μ1 u1 p1 p2 p3 hQ
    refine OkE.go snX5_notes [11] 100 ?_
    intro x1 e1
    obtain rfl : x1 = u1 := e1.trans p3
    intro μ2 d2
    intro x3 e3
    obtain rfl : x3 = x1 + 1 := by rw [e3, d2]; exact upm_at _ _ _ _
    refine qX5_copies (by omega) (by omega) (by omega) ?_
    rw [d2]
    exact hQ
  have L : ∀ (d : Nat) (m : Int) (μ' : Mem), u = 10 → 1 ≤ m → m + d = 10 → μ' = (fun c i => if c = 1 ∧ 400 ≤ i ∧ i < 400 * m then μ 1 (i + 400) else μ c i) → OkE mX5_notes 11 [(105, 0), (0, m)] [] μ' Q := by
    intro d
    induction d with
    | zero =>
      intro m μ' hu0 h0 hd e
      refine OkE.go snX5_notes [11, 41] 100 ?_
      refine ⟨by omega, by omega, fun _ => ?_, fun q => absurd q (by omega)⟩
      obtain rfl : m = 10 := by omega
      have r0 : ∀ c i, c ≠ 1 → μ' c i = μ c i := fun c i hc => by rw [e]; dsimp only; rw [if_neg (by omega)]
      have r1 : ∀ i, μ' 1 i = if 400 ≤ i ∧ i < 4000 then μ 1 (i + 400) else μ 1 i := fun i => by
        rw [e]; dsimp only
        by_cases hi : 400 ≤ i ∧ i < 4000
        · rw [if_pos hi, if_pos (by omega)]
        · rw [if_neg hi, if_neg (by omega)]
      intro x1 e1
      obtain rfl : x1 = u := e1.trans ((r0 0 1 (by omega)).trans h1)
      intro μ2 d2
      refine J _ μ2 9 (by omega) (by omega) (by rw [d2, hu0]; exact upm_at _ _ _ _) ?_
      have r2 : ∀ i, μ2 1 i = μ' 1 i := fun i => by rw [d2]; exact upm_ne (by show ¬ ((1 : Int) = 0 ∧ i = 1); omega)
      refine h _ ?_ (fun i p q => ?_) (fun k i p1 p2 p3 p4 => ?_) (fun i p => ?_) (fun c i p1 p2 => ?_)
      · unfold cpR; rw [if_neg (by omega), upm_at, hu0]; rfl
      · unfold cpR; rw [if_pos (by omega), upm_ne (by omega), r2, r1, if_neg (by omega)]; congr 1; omega
      · unfold cpR; rw [if_neg (by omega), upm_ne (by omega), r2, r1, if_pos (by omega), if_pos hu0]; congr 1; omega
      · unfold cpR; rw [if_neg (by omega), upm_ne (by omega), r2, r1, if_neg (by omega)]
      · unfold cpR; rw [if_neg (by omega), upm_ne (by omega), d2]
        refine (upm_ne (by show ¬ (c = 0 ∧ i = 1); exact p2)).trans (r0 c i p1)
    | succ d ih =>
      intro m μ' hu0 h0 hd e
      refine OkE.go snX5_notes [11, 41] 100 ?_
      refine ⟨by omega, by omega, fun q => absurd q (by omega), fun _ => ?_⟩
      refine qX5_copies (by omega) (by omega) (by omega) ?_
      refine ih (m + 1) _ hu0 (by omega) (by omega) ?_
      subst e
      funext c i
      unfold cpR
      by_cases hc : c = 1 ∧ 400 * m ≤ i ∧ i < 400 * m + 400
      · rw [if_pos hc, if_pos (by omega)]
        dsimp only
        rw [if_neg (by omega)]
        congr 1; omega
      · rw [if_neg hc]
        dsimp only
        by_cases hd : c = 1 ∧ 400 ≤ i ∧ i < 400 * m
        · rw [if_pos hd, if_pos (by omega)]
        · rw [if_neg hd, if_neg (by omega)]
  refine MetP.go snX5_notes [11, 41] 100 rfl rfl rfl rfl (fun _ => ?_)
  intro x1 e1
  obtain rfl : x1 = u := e1.trans h1
  refine ⟨by omega, by omega, fun q => ?_, fun q => ?_⟩
  · refine J _ μ x1 (by omega) (by omega) h1 ?_
    refine h _ ?_ (fun i p q => ?_) (fun k i p1 p2 p3 p4 => ?_) (fun i p => ?_) (fun c i p1 p2 => ?_)
    · unfold cpR; rw [if_neg (by omega), upm_at]; omega
    · unfold cpR; rw [if_pos (by omega), upm_ne (by omega)]; congr 1; omega
    · unfold cpR; rw [if_neg (by omega), upm_ne (by omega), if_neg (by omega)]; congr 1; omega
    · unfold cpR; rw [if_neg (by omega), upm_ne (by omega)]
    · unfold cpR; rw [if_neg (by omega)]; exact upm_ne p2
  · refine L 9 1 μ (by omega) (by omega) (by omega) ?_
    funext c i
    rw [if_neg (by omega)]
end M45
