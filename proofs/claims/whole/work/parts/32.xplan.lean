/-- nothing but a Service's cells has changed -/
def FrS (μ μ' : Mem) (c : Int) : Prop := ∀ a b, ¬ (c ≤ a ∧ a < c + 12) → μ' a b = μ a b
/-- the plan of a round, in a Service's fields -/
def PlS (μ : Mem) (c R x st bd du pl mv : Int) : Prop := μ c 12 = x ∧ μ c 13 = st ∧ μ c 14 = bd ∧ μ c 15 = du ∧ μ c 16 = pl ∧ μ (c + 11) (R % 4) = mv
theorem upm_frS {μ : Mem} {c a j x : Int} (h : c ≤ a ∧ a < c + 12) : FrS μ (upm μ a j x) c := fun a' b' hn => upm_ne (by omega)
theorem FrS.trans {μ μ1 μ2 : Mem} {c : Int} (h1 : FrS μ μ1 c) (h2 : FrS μ1 μ2 c) : FrS μ μ2 c := fun a b hn => (h2 a b hn).trans (h1 a b hn)
theorem FrS.rf {μ : Mem} {c : Int} : FrS μ μ c := fun _ _ _ => rfl
section X3
variable {μ : Mem} {c h R : Int} {g u : Int → Int} {Q : PV → Mem → Prop}
theorem RelS_wake {x : Int} (hR : 0 ≤ R) (hS : RelS μ c R u) (h9 : u 9 ≤ 3) (hx : x = u 10 + u 11) : RelS (upm (upm μ c 4 x) (c + 9) (R % 8) 0) c R (wakeV u) := by
  obtain ⟨h1, ⟨h2, h2b, h2c⟩, h3, h4, h5, h6, h7, h8, h10, h11⟩ := hS
  have ew : ∀ k, k ≠ 10 → k ≠ 11 → wakeV u k = u k := fun k a b => wake_ne a b
  have e : ∀ a b, ¬ (a = c ∧ b = 4) → ¬ (a = c + 9 ∧ b = R % 8) → upm (upm μ c 4 x) (c + 9) (R % 8) 0 a b = μ a b := fun a b p q => (upm_ne q).trans (upm_ne p)
  refine ⟨fun k a b => ?_, ⟨?_, ?_, ?_⟩, fun k a b => ?_, ?_, fun k a b d => ?_, ?_, fun k a b => ?_, ?_, ?_, fun m a b => ?_⟩
  · rw [e _ _ (by omega) (by omega), ew k (by omega) (by omega)]; exact h1 k a b
  · rw [e _ _ (by omega) (by omega), ew 9 (by omega) (by omega)]; exact h2
  · rw [e _ _ (by omega) (by omega), cnt_wake]; exact h2b
  · rw [upm_ne (by omega), upm_at, wake_10]; exact hx
  · by_cases hk : k = 0
    · subst hk
      rw [Int.add_zero, upm_at, Int.add_zero, wake_11]
    · rw [e _ _ (by omega) (by omega), ew _ (by omega) (by omega)]; exact h3 k a b
  · rw [e _ _ (by omega) (by omega)]; exact h4
  · rw [e _ _ (by omega) (by omega), ew _ (by omega) (by omega)]; exact h5 k a b d
  · rw [ew 24 (by omega) (by omega)]; exact h6
  · rw [e _ _ (by omega) (by omega), ew _ (by omega) (by omega), ew _ (by omega) (by omega)]; exact h7 k a b
  · rw [e _ _ (by omega) (by omega), ew _ (by omega) (by omega)]; exact h8
  · rw [e _ _ (by omega) (by omega), e _ _ (by omega) (by omega), e _ _ (by omega) (by omega), ew _ (by omega) (by omega), ew _ (by omega) (by omega), ew _ (by omega) (by omega)]; exact h10
  · rw [ew 9 (by omega) (by omega)] at b
    obtain ⟨a1, a2, a3, a4⟩ := h11 m a b
    rw [e _ _ (by omega) (by omega), e _ _ (by omega) (by omega), e _ _ (by omega) (by omega), ew _ (by omega) (by omega), ew _ (by omega) (by omega), ew _ (by omega) (by omega)]
    refine ⟨a1, a2, a3, fun k p q t => ?_⟩
    rw [e _ _ (by omega) (by omega), ew _ (by omega) (by omega)]
    exact a4 k p q t
theorem qX2_wake (hR : 0 ≤ R ∧ R ≤ 100000) (hS : RelS μ c R u) (h9 : u 9 ≤ 3) (hq : ∀ μ', RelS μ' c R (wakeV u) → FrS μ μ' c → Q (9, 0) μ') : MetP mX2_wake [(102, c), (0, R)] μ Q := by
  have hS2 := hS
  obtain ⟨-, ⟨-, -, h4⟩, h3, -⟩ := hS2
  have h0 := h3 0 (by omega) (by omega)
  rw [Int.add_zero] at h0
  refine MetP.go snX2_wake [] 100 rfl rfl rfl rfl (fun _ => ?_)
  intro x1 e1
  obtain rfl := e1.trans h4
  refine ⟨by omega, by omega, ?_⟩
  refine ⟨by omega, fun x2 e2 => ?_⟩
  obtain rfl : x2 = u 11 := e2.trans h0
  intro μ1 d1
  refine ⟨by omega, by omega, ?_⟩
  refine ⟨by omega, fun μ2 d2 => ?_⟩
  subst d1
  subst d2
  exact hq _ (RelS_wake hR.1 hS h9 rfl) (FrS.trans (upm_frS (by omega)) (upm_frS (by show c ≤ c + 9 ∧ c + 9 < c + 12; omega)))
theorem qX2_steadied_loop {x : Int} (hR : 0 ≤ R ∧ R ≤ 100000) (hS : RelS μ c R u) (hB : BV u) (hx : 0 ≤ x ∧ x ≤ 300000) (hq : Q (0, steadyV x u) μ) : ∀ (d : Nat) (b : Int) (t5 : Nat) (x5 : Int), 1 ≤ b → b + d = min 5 R + 1 → OkE mX2_steadied 13 [(102, c), (0, R), (0, lowN x u (min (b - 1) (u 3 - 1)).toNat), (0, highN x u (min (b - 1) (u 4 - 1)).toNat), (0, b), (t5, x5)] [] μ Q := by
  have hc := cntV_bd hB
  have hB2 := hB
  obtain ⟨-, -, -, -, b3, b4, -, -, -, -, -, -, -, hu, b24, -⟩ := hB2
  have hS2 := hS
  obtain ⟨hn, ⟨-, hcnt, -⟩, -, -, hw, h24, -⟩ := hS2
  have fin : ∀ (b : Int) (t5 : Nat) (x5 : Int), b = min 5 R + 1 → OkE mX2_steadied 82 [(102, c), (0, R), (0, lowN x u (min (b - 1) (u 3 - 1)).toNat), (0, highN x u (min (b - 1) (u 4 - 1)).toNat), (0, b), (t5, x5)] [] μ Q := by
    intro b t5 x5 hb
    have l1 := lowN_bd hx hu (min (u 3 - 1) (u 24)).toNat (by omega)
    have l2 := lowN_bd hx hu (min (u 4 - 1) (u 24)).toNat (by omega)
    unfold steadyV at hq
    rw [show (min (b - 1) (u 3 - 1)).toNat = (min (u 3 - 1) (u 24)).toNat by omega, show (min (b - 1) (u 4 - 1)).toNat = (min (u 4 - 1) (u 24)).toNat by omega]
    refine OkE.go snX2_steadied [] 100 ?_
    intro x1 e1
    obtain rfl := e1.trans hcnt
    refine ⟨by omega, by omega, fun q => ?_, fun q => ?_⟩
    · intro x2 e2
      obtain rfl := e2.trans hcnt
      refine ⟨by omega, by omega, ?_⟩
      rw [if_neg (by omega)] at hq
      have e : min (cntV u) (highN x u (min (u 4 - 1) (u 24)).toNat) = (if highN x u (min (u 4 - 1) (u 24)).toNat < cntV u then highN x u (min (u 4 - 1) (u 24)).toNat else cntV u) := by split <;> omega
      rw [← e] at hq
      exact hq
    · rw [if_pos (by omega)] at hq
      exact hq
  intro d
  induction d with
  | zero =>
    intro b t5 x5 hb1 hb
    have h1 := fin b t5 x5 (by omega)
    refine OkE.go snX2_steadied [13, 82] 100 ?_
    refine ⟨by omega, by omega, fun _ => ?_, fun q => ?_⟩
    · exact h1
    refine ⟨by omega, by omega, fun _ => ?_, fun q => absurd q (by omega)⟩
    exact h1
  | succ d ih =>
    intro b t5 x5 hb1 hb
    have hwb := hw (b - 1) (by omega) (by omega) (by omega)
    rw [show R - 1 - (b - 1) = R - b by omega] at hwb
    have hub := hu (18 + (b - 1)) (by omega) (by omega)
    have l1 := lowN_bd hx hu (min (b - 1) (u 3 - 1)).toNat (by omega)
    have l2 := lowN_bd hx hu (min (b - 1) (u 4 - 1)).toNat (by omega)
    have ih2 := ih (b + 1) 0 (u (18 + (b - 1))) (by omega) (by omega)
    have eL : lowN x u (min (b + 1 - 1) (u 3 - 1)).toNat = (if b < u 3 then min (lowN x u (min (b - 1) (u 3 - 1)).toNat) (u (18 + (b - 1))) else lowN x u (min (b - 1) (u 3 - 1)).toNat) := by
      by_cases hc3 : b < u 3
      · rw [if_pos hc3, show (min (b + 1 - 1) (u 3 - 1)).toNat = (b - 1).toNat + 1 by omega, show (min (b - 1) (u 3 - 1)).toNat = (b - 1).toNat by omega]
        show min (lowN x u (b - 1).toNat) (u (18 + (((b - 1).toNat : Nat) : Int))) = _
        rw [show (((b - 1).toNat : Nat) : Int) = b - 1 by omega]
      · rw [if_neg hc3]
        congr 1
        omega
    have eH : highN x u (min (b + 1 - 1) (u 4 - 1)).toNat = (if b < u 4 then max (highN x u (min (b - 1) (u 4 - 1)).toNat) (u (18 + (b - 1))) else highN x u (min (b - 1) (u 4 - 1)).toNat) := by
      by_cases hc3 : b < u 4
      · rw [if_pos hc3, show (min (b + 1 - 1) (u 4 - 1)).toNat = (b - 1).toNat + 1 by omega, show (min (b - 1) (u 4 - 1)).toNat = (b - 1).toNat by omega]
        show max (highN x u (b - 1).toNat) (u (18 + (((b - 1).toNat : Nat) : Int))) = _
        rw [show (((b - 1).toNat : Nat) : Int) = b - 1 by omega]
      · rw [if_neg hc3]
        congr 1
        omega
    rw [eL, eH] at ih2
    have J58 : ∀ z, z = (if b < u 3 then min (lowN x u (min (b - 1) (u 3 - 1)).toNat) (u (18 + (b - 1))) else lowN x u (min (b - 1) (u 3 - 1)).toNat) → OkE mX2_steadied 58 [(102, c), (0, R), (0, z), (0, highN x u (min (b - 1) (u 4 - 1)).toNat), (0, b), (0, u (18 + (b - 1)))] [] μ Q := by
      intro z hz
      rw [← hz] at ih2
      refine OkE.go snX2_steadied [13] 100 ?_
      refine ⟨by omega, fun x2 e2 => ?_⟩
      obtain rfl := e2.trans (hn 4 (by omega) (by omega))
      refine ⟨by omega, by omega, fun q => ?_, fun q => ?_⟩
      · rw [if_neg (by omega)] at ih2
        exact ih2
      · refine ⟨by omega, by omega, ?_⟩
        rw [if_pos (by omega)] at ih2
        exact ih2
    refine OkE.go snX2_steadied [13, 82, 58] 100 ?_
    refine ⟨by omega, by omega, fun q => absurd q (by omega), fun _ => ?_⟩
    refine ⟨by omega, by omega, fun q => absurd q (by omega), fun _ => ?_⟩
    refine ⟨by omega, by omega, ?_⟩
    refine ⟨by omega, fun x1 e1 => ?_⟩
    obtain rfl := e1.trans hwb
    refine ⟨by omega, fun x2 e2 => ?_⟩
    obtain rfl := e2.trans (hn 3 (by omega) (by omega))
    refine ⟨by omega, by omega, fun q => ?_, fun q => ?_⟩
    · exact J58 _ (by rw [if_neg (by omega)])
    · refine ⟨by omega, by omega, ?_⟩
      exact J58 _ (by rw [if_pos (by omega)])
theorem qX2_steadied {x : Int} (hR : 0 ≤ R ∧ R ≤ 100000) (hS : RelS μ c R u) (hB : BV u) (hx : 0 ≤ x ∧ x ≤ 300000) (hx2 : μ c 12 = x) (hq : Q (0, steadyV x u) μ) : MetP mX2_steadied [(102, c), (0, R)] μ Q := by
  have hB2 := hB
  obtain ⟨-, -, -, -, b3, b4, -⟩ := hB2
  have hl := qX2_steadied_loop hR hS hB hx hq (min 5 R).toNat 1 9 0 (by omega) (by omega)
  rw [show (min (1 - 1) (u 3 - 1)).toNat = 0 by omega, show (min (1 - 1) (u 4 - 1)).toNat = 0 by omega] at hl
  refine MetP.go snX2_steadied [13] 100 rfl rfl rfl rfl (fun _ => ?_)
  intro x1 e1
  obtain rfl := e1.trans hx2
  intro x2 e2
  obtain rfl := e2.trans hx2
  exact hl
end X3
