section T76
variable {μ ν : Mem} {B : Int → Int} {Q : PV → Mem → Prop} {n p q e x : Int}
theorem nmO_s (h : q ≤ p) : nmO B q (p + 1) = if p - q < 2 then 10 * nmO B q p + B p - 48 else 100 := by
  have hv := vlO_s (B := B) h
  unfold nmO
  by_cases h1 : p - q < 2
  · rw [if_pos h1] at hv
    rw [if_pos (by omega), if_pos h1, if_pos (by omega), hv]
  · rw [if_neg (by omega), if_neg h1]
theorem qX3_isDigit (hx : 0 ≤ x ∧ x ≤ 255) (h1 : isDg x → Q (0, 1) μ) (h0 : ¬ isDg x → Q (0, 0) μ) : MetP mX3_isDigit [(0, x)] μ Q := by
  unfold isDg at h1 h0
  refine MetP.go snX3_isDigit [] 100 rfl rfl rfl rfl (fun _ => ?_)
  refine ⟨by omega, by omega, fun q => ?_, fun q => ?_⟩
  · exact ⟨by omega, h0 (by omega)⟩
  refine ⟨by omega, by omega, fun q2 => ?_, fun q2 => ?_⟩
  · exact ⟨by omega, h0 (by omega)⟩
  · exact ⟨by omega, h1 (by omega)⟩
theorem qX3_step (hT : TX B n) (h1 : μ 1 1 = n) (hB : ∀ i, 0 ≤ i → i < n → μ 2 i = B i) (hp : 0 ≤ p ∧ p ≤ n) (h2 : μ 1 2 = p) (hq : ∀ μ', tkC B n μ' p → (∀ c i, ¬ (c = 1 ∧ 2 ≤ i ∧ i ≤ 5) → μ' c i = μ c i) → Q (9, 0) μ') : MetP mX3_step [(103, 1)] μ Q := by
  obtain ⟨hn, hb⟩ := hT
  have b1 := tq_bd (B := B) hp.2
  have L133 : ∀ (q e : Int), 0 ≤ q ∧ q < n → (∀ μ', μ' 1 2 = e → μ' 1 3 = q → μ' 1 4 = -2 → μ' 1 5 = nmO B q e → (∀ c i, ¬ (c = 1 ∧ 2 ≤ i ∧ i ≤ 5) → μ' c i = μ c i) → Q (9, 0) μ') → ∀ (k : Nat) (p : Int) (μ' : Mem), n ≤ p + k → q ≤ p → p ≤ n → dgN B n k p = e → μ' 1 2 = p → μ' 1 3 = q → μ' 1 4 = -2 → μ' 1 5 = nmO B q p → (∀ c i, ¬ (c = 1 ∧ 2 ≤ i ∧ i ≤ 5) → μ' c i = μ c i) → OkE mX3_step 133 [(103, 1)] [] μ' Q := by
    intro q e hqn hk k
    have fin : ∀ (p : Int) (μ' : Mem), p = e → μ' 1 2 = p → μ' 1 3 = q → μ' 1 4 = -2 → μ' 1 5 = nmO B q p → (∀ c i, ¬ (c = 1 ∧ 2 ≤ i ∧ i ≤ 5) → μ' c i = μ c i) → OkE mX3_step 224 [(103, 1)] [] μ' Q := by
      intro p μ' hpe k2 k3 k4 k5 kf
      refine OkE.go snX3_step [] 100 ?_
      subst hpe
      exact hk μ' k2 k3 k4 k5 kf
    induction k with
    | zero =>
      intro p μ' hf hqp hpn hde k2 k3 k4 k5 kf
      refine OkE.go snX3_step [133, 224] 100 ?_
      intro x1 e1
      obtain rfl : x1 = p := e1.trans k2
      intro x2 e2
      obtain rfl : x2 = n := e2.trans ((kf 1 1 (by omega)).trans h1)
      refine ⟨by omega, by omega, fun _ => ?_, fun q1 => absurd q1 (by omega)⟩
      exact fin x1 μ' hde k2 k3 k4 k5 kf
    | succ k ih =>
      intro p μ' hf hqp hpn hde k2 k3 k4 k5 kf
      refine OkE.go snX3_step [133, 208, 224] 100 ?_
      intro x1 e1
      obtain rfl : x1 = p := e1.trans k2
      intro x2 e2
      obtain rfl : x2 = n := e2.trans ((kf 1 1 (by omega)).trans h1)
      have hdef : dgN B x2 (k + 1) x1 = if x1 < x2 ∧ isDg (B x1) then dgN B x2 k (x1 + 1) else x1 := rfl
      refine ⟨by omega, by omega, fun q1 => ?_, fun q1 => ?_⟩
      · rw [if_neg (by omega)] at hdef
        exact fin x1 μ' (hdef.symm.trans hde) k2 k3 k4 k5 kf
      · intro x3 e3
        obtain rfl : x3 = x1 := e3.trans k2
        refine ⟨by omega, by omega, fun q2 => absurd q2 (by omega), fun _ => ?_⟩
        have bp := hb x3 (by omega) (by omega)
        intro x4 e4
        obtain rfl : x4 = x3 := e4.trans k2
        refine ⟨by omega, fun x5 e5 => ?_⟩
        obtain rfl : x5 = B x4 := e5.trans ((kf 2 x4 (by omega)).trans (hB x4 (by omega) (by omega)))
        refine qX3_isDigit bp (fun hd => ?_) (fun hd => ?_)
        · refine ⟨by omega, fun q2 => absurd q2 (by omega), fun _ => ?_⟩
          rw [if_pos ⟨by omega, hd⟩] at hdef
          have hv := nmO_s (B := B) hqp
          have J208 : ∀ z, z = nmO B q (x4 + 1) → OkE mX3_step 208 [(103, 1)] [(0, z), (103, 1)] μ' Q := by
            intro z hz
            refine OkE.go snX3_step [133] 100 ?_
            intro μ2 d2
            have n2 : ∀ a b, ¬ (a = 1 ∧ b = 5) → μ2 a b = μ' a b := fun a b hn => by rw [d2]; exact upm_ne hn
            have v2 : μ2 1 5 = z := by rw [d2]; exact upm_at _ _ _ _
            intro x6 e6
            obtain rfl : x6 = x4 := e6.trans ((n2 1 2 (by omega)).trans k2)
            intro μ3 d3
            have n3 : ∀ a b, ¬ (a = 1 ∧ b = 2) → μ3 a b = μ2 a b := fun a b hn => by rw [d3]; exact upm_ne hn
            have v3 : μ3 1 2 = x6 + 1 := by rw [d3]; exact upm_at _ _ _ _
            refine ih (x6 + 1) μ3 (by omega) (by omega) (by omega) (hdef.symm.trans hde) v3 ?_ ?_ ?_ (fun c i hn => ?_)
            · rw [n3 _ _ (by omega), n2 _ _ (by omega)]; exact k3
            · rw [n3 _ _ (by omega), n2 _ _ (by omega)]; exact k4
            · rw [n3 _ _ (by omega), v2, hz]
            · rw [n3 _ _ (by omega), n2 _ _ (by omega)]; exact kf c i hn
          intro x6 e6
          obtain rfl : x6 = x4 := e6.trans k2
          intro x7 e7
          obtain rfl : x7 = q := e7.trans k3
          refine ⟨by omega, by omega, fun q2 => ?_, fun q2 => ?_⟩
          · rw [if_neg (by omega)] at hv
            exact J208 _ hv.symm
          · intro x8 e8
            obtain rfl : x8 = nmO B x7 x6 := e8.trans k5
            intro x9 e9
            obtain rfl : x9 = x6 := e9.trans k2
            refine ⟨by omega, fun x10 e10 => ?_⟩
            obtain rfl : x10 = B x9 := e10.trans ((kf 2 x9 (by omega)).trans (hB x9 (by omega) (by omega)))
            rw [if_pos (by omega)] at hv
            exact J208 _ hv.symm
        · refine ⟨by omega, fun _ => ?_, fun q2 => absurd rfl q2⟩
          rw [if_neg (fun h => hd h.2)] at hdef
          exact fin x4 μ' (hdef.symm.trans hde) k2 k3 k4 k5 kf
  have J48 : ∀ (q : Int) (μ' : Mem), q = tq B n p → μ' 1 2 = q → (∀ c i, ¬ (c = 1 ∧ 2 ≤ i ∧ i ≤ 5) → μ' c i = μ c i) → OkE mX3_step 48 [(103, 1)] [] μ' Q := by
    intro q μ' hq0 k2 kf
    unfold tkC te tt at hq
    rw [← hq0] at hq b1
    refine OkE.go snX3_step [133] 100 ?_
    intro x1 e1
    obtain rfl : x1 = q := e1.trans k2
    intro μ2 d2
    have n2 : ∀ a b, ¬ (a = 1 ∧ b = 3) → μ2 a b = μ' a b := fun a b hn => by rw [d2]; exact upm_ne hn
    have v2 : μ2 1 3 = x1 := by rw [d2]; exact upm_at _ _ _ _
    have r2 : μ2 1 2 = x1 := (n2 1 2 (by omega)).trans k2
    have rf : ∀ c i, ¬ (c = 1 ∧ 2 ≤ i ∧ i ≤ 5) → μ2 c i = μ c i := fun c i hn => (n2 c i (by omega)).trans (kf c i hn)
    intro x3 e3
    obtain rfl : x3 = x1 := e3.trans r2
    intro x4 e4
    obtain rfl : x4 = n := e4.trans ((rf 1 1 (by omega)).trans h1)
    refine ⟨by omega, by omega, fun q1 => ?_, fun q1 => ?_⟩
    · intro μ3 d3
      have n3 : ∀ a b, ¬ (a = 1 ∧ b = 4) → μ3 a b = μ2 a b := fun a b hn => by rw [d3]; exact upm_ne hn
      have v3 : μ3 1 4 = -1 := by rw [d3]; exact upm_at _ _ _ _
      rw [if_pos q1, if_pos q1] at hq
      refine hq μ3 ⟨?_, ?_, v3, fun h => absurd h (by omega)⟩ (fun c i hn => ?_)
      · rw [n3 _ _ (by omega)]; exact r2
      · rw [n3 _ _ (by omega)]; exact v2
      · rw [n3 _ _ (by omega)]; exact rf c i hn
    · rw [if_neg q1, if_neg q1] at hq
      intro x5 e5
      obtain rfl : x5 = x3 := e5.trans r2
      refine ⟨by omega, by omega, fun _ => ?_, fun q2 => absurd q2 (by omega)⟩
      have bq := hb x5 (by omega) (by omega)
      intro x6 e6
      obtain rfl : x6 = x5 := e6.trans r2
      refine ⟨by omega, fun x7 e7 => ?_⟩
      obtain rfl : x7 = B x6 := e7.trans ((rf 2 x6 (by omega)).trans (hB x6 (by omega) (by omega)))
      refine qX3_isDigit bq (fun hd => ?_) (fun hd => ?_)
      · refine ⟨by omega, fun _ => ?_, fun q2 => absurd q2 (by omega)⟩
        rw [if_pos hd, if_pos hd] at hq
        intro μ3 d3
        have n3 : ∀ a b, ¬ (a = 1 ∧ b = 4) → μ3 a b = μ2 a b := fun a b hn => by rw [d3]; exact upm_ne hn
        have v3 : μ3 1 4 = -2 := by rw [d3]; exact upm_at _ _ _ _
        intro μ4 d4
        have n4 : ∀ a b, ¬ (a = 1 ∧ b = 5) → μ4 a b = μ3 a b := fun a b hn => by rw [d4]; exact upm_ne hn
        have v4 : μ4 1 5 = 0 := by rw [d4]; exact upm_at _ _ _ _
        refine L133 x6 (dgN B x4 160 x6) (by omega) (fun μ5 a2 a3 a4 a5 a6 => hq μ5 ⟨a2, a3, a4, fun _ => a5⟩ a6) 160 x6 μ4 (by omega) (by omega) (by omega) rfl ?_ ?_ ?_ ?_ (fun c i hn => ?_)
        · rw [n4 _ _ (by omega), n3 _ _ (by omega)]; exact r2
        · rw [n4 _ _ (by omega), n3 _ _ (by omega)]; exact v2
        · rw [n4 _ _ (by omega)]; exact v3
        · rw [v4]; unfold nmO vlO; rw [if_pos (by omega), if_pos (by omega)]
        · rw [n4 _ _ (by omega), n3 _ _ (by omega)]; exact rf c i hn
      · refine ⟨by omega, fun q2 => absurd rfl q2, fun _ => ?_⟩
        rw [if_neg hd, if_neg hd] at hq
        intro x8 e8
        obtain rfl : x8 = x6 := e8.trans r2
        refine ⟨by omega, fun x9 e9 => ?_⟩
        obtain rfl : x9 = B x8 := e9.trans ((rf 2 x8 (by omega)).trans (hB x8 (by omega) (by omega)))
        intro μ3 d3
        have n3 : ∀ a b, ¬ (a = 1 ∧ b = 4) → μ3 a b = μ2 a b := fun a b hn => by rw [d3]; exact upm_ne hn
        have v3 : μ3 1 4 = B x8 := by rw [d3]; exact upm_at _ _ _ _
        intro x10 e10
        obtain rfl : x10 = x8 := e10.trans ((n3 1 2 (by omega)).trans r2)
        intro μ4 d4
        have n4 : ∀ a b, ¬ (a = 1 ∧ b = 2) → μ4 a b = μ3 a b := fun a b hn => by rw [d4]; exact upm_ne hn
        have v4 : μ4 1 2 = x10 + 1 := by rw [d4]; exact upm_at _ _ _ _
        refine hq μ4 ⟨v4, ?_, ?_, fun h => absurd h (by omega)⟩ (fun c i hn => ?_)
        · rw [n4 _ _ (by omega), n3 _ _ (by omega)]; exact v2
        · rw [n4 _ _ (by omega)]; exact v3
        · rw [n4 _ _ (by omega), n3 _ _ (by omega)]; exact rf c i hn
  have L0 : ∀ (k : Nat) (a : Int) (μ' : Mem), n ≤ a + k → 0 ≤ a → a ≤ n → skN B n k a = tq B n p → μ' 1 2 = a → (∀ c i, ¬ (c = 1 ∧ 2 ≤ i ∧ i ≤ 5) → μ' c i = μ c i) → OkE mX3_step 0 [(103, 1)] [] μ' Q := by
    intro k
    induction k with
    | zero =>
      intro a μ' hf h0 han hsk k2 kf
      refine OkE.go snX3_step [0, 48] 100 ?_
      intro x1 e1
      obtain rfl : x1 = a := e1.trans k2
      intro x2 e2
      obtain rfl : x2 = n := e2.trans ((kf 1 1 (by omega)).trans h1)
      refine ⟨by omega, by omega, fun _ => ?_, fun q1 => absurd q1 (by omega)⟩
      exact J48 x1 μ' hsk k2 kf
    | succ k ih =>
      intro a μ' hf h0 han hsk k2 kf
      refine OkE.go snX3_step [0, 48] 100 ?_
      intro x1 e1
      obtain rfl : x1 = a := e1.trans k2
      intro x2 e2
      obtain rfl : x2 = n := e2.trans ((kf 1 1 (by omega)).trans h1)
      have hdef : skN B x2 (k + 1) x1 = if x1 < x2 ∧ B x1 = 32 then skN B x2 k (x1 + 1) else x1 := rfl
      refine ⟨by omega, by omega, fun q1 => ?_, fun q1 => ?_⟩
      · rw [if_neg (by omega)] at hdef
        exact J48 x1 μ' (hdef.symm.trans hsk) k2 kf
      · intro x3 e3
        obtain rfl : x3 = x1 := e3.trans k2
        refine ⟨by omega, by omega, fun q2 => absurd q2 (by omega), fun _ => ?_⟩
        have bp := hb x3 (by omega) (by omega)
        intro x4 e4
        obtain rfl : x4 = x3 := e4.trans k2
        refine ⟨by omega, fun x5 e5 => ?_⟩
        obtain rfl : x5 = B x4 := e5.trans ((kf 2 x4 (by omega)).trans (hB x4 (by omega) (by omega)))
        refine ⟨by omega, by omega, fun q2 => ?_, fun q2 => ?_⟩
        · rw [if_neg (fun h => q2 h.2)] at hdef
          exact J48 x4 μ' (hdef.symm.trans hsk) k2 kf
        · rw [if_pos (by omega)] at hdef
          intro x6 e6
          obtain rfl : x6 = x4 := e6.trans k2
          intro μ2 d2
          refine ih (x6 + 1) μ2 (by omega) (by omega) (by omega) (hdef.symm.trans hsk) (by rw [d2]; exact upm_at _ _ _ _) (fun c i hn => ?_)
          rw [d2]
          exact (upm_ne (by show ¬ (c = 1 ∧ i = 2); omega)).trans (kf c i hn)
  refine MetP.go snX3_step [0] 0 rfl rfl rfl rfl (fun _ => ?_)
  exact L0 160 p μ (by omega) hp.1 hp.2 rfl h2 (fun _ _ _ => rfl)
end T76
