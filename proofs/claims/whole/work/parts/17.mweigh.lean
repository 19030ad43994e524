section M2
variable {μ : Mem} {r s m : Int} {g : Int → Int} {v W : Mem} {Q : PV → Mem → Prop}
theorem qX5_wantOf {x : Int} (hr : 0 ≤ r ∧ r ≤ 12) (hs : 0 ≤ s ∧ s < 4) (hG : BG g) (hB : BV (v s)) (hm : 0 ≤ m ∧ m < v s 9) (hx : -1 ≤ x ∧ x ≤ 9999) (h : Q (0, wantV g (v s) m x) (wk μ r g v W)) : MetP mX5_wantOf [(105, 0), (0, r), (0, s), (0, m), (0, x)] (wk μ r g v W) Q := by
  have hc := cntV_bd hB
  have hB2 := hB
  obtain ⟨-, -, -, -, -, -, -, -, -, -, h9, -, -, -, -, -, -, hM⟩ := hB2
  obtain ⟨hk, ht, -, hp⟩ := hM m hm.1 hm.2
  have hf := foreV_bd (g := g) (h := g 1) hp
  obtain ⟨-, gb1, -⟩ := id hG
  unfold wantV at h
  refine MetP.go snX5_wantOf [147] 200 rfl rfl rfl rfl (fun _ => ?_)
  refine qX5_countOf hr hs ?_
  refine qX5_atMeasure ?_
  refine ⟨by omega, fun x1 e1 => ?_⟩
  obtain rfl := e1.trans (rd_v s (36 + 21 * m) rfl (by omega) (by omega))
  refine qX5_at ?_
  refine ⟨by omega, fun x2 e2 => ?_⟩
  obtain rfl := e2.trans (rd_v s 10 rfl (by omega) (by omega))
  refine ⟨by omega, fun q3 => ?_, fun q3 => ?_⟩
  · rw [if_neg (by omega)] at h
    refine qX5_atMeasure ?_
    refine ⟨by omega, fun x4 e4 => ?_⟩
    obtain rfl := e4.trans (rd_v s (35 + 21 * m) rfl (by omega) (by omega))
    refine ⟨by omega, ?_⟩
    refine ⟨fun q5 => ?_, fun q5 => ?_⟩
    · rw [if_pos q5] at h
      refine qX5_up (by omega) (by omega) ?_
      exact h
    rw [if_neg q5] at h
    refine ⟨fun q6 => ?_, fun q6 => ?_⟩
    · rw [if_pos q6] at h
      refine qX5_of 1 hr (by omega) ?_
      refine qX5_forecastOf hr hs (by omega) hG (by omega) hp ?_
      refine ⟨by omega, by omega, fun q7 => ?_, fun q7 => ?_⟩
      · rw [show max (foreV g (v s) m (g 1)) x = x by omega] at h
        refine qX5_up (by omega) (by omega) ?_
        exact h
      rw [show max (foreV g (v s) m (g 1)) x = foreV g (v s) m (g 1) by omega] at h
      refine qX5_up (by omega) (by omega) ?_
      exact h
    rw [if_neg q6] at h
    refine ⟨fun q8 => ?_, fun q8 => ?_⟩
    · rw [if_pos q8] at h
      have J : ∀ z, z = (if v s (36 + 21 * m) < x then x - v s (36 + 21 * m) else v s (36 + 21 * m) - x) → OkE mX5_wantOf 147 [(105, 0), (0, r), (0, s), (0, m), (0, x), (0, cntV (v s)), (0, v s (36 + 21 * m)), (0, v s 10), (9, 0), (9, 0)] [(0, z)] (wk μ r g v W) Q := by
        intro z hz
        rw [← hz] at h
        have hz2 : 0 ≤ z ∧ z ≤ 10000 := by rw [hz]; split <;> omega
        refine OkE.go snX5_wantOf [] 100 ?_
        refine ⟨by omega, by omega, fun q10 => ?_, fun q10 => ?_⟩
        · rw [if_neg (by omega)] at h
          refine ⟨by omega, fun q11 => ?_, fun q11 => ?_⟩
          · rw [if_neg q11] at h
            have h2 : 0 ≤ v s 10 * x := Int.mul_nonneg (by omega) (by omega)
            have h3 : v s 10 * x ≤ 20 * x := Int.mul_le_mul_of_nonneg_right (by omega) (by omega)
            refine qX5_up (by omega) (by omega) ?_
            exact h
          rw [if_pos (by omega)] at h
          refine qX5_up (by omega) (by omega) ?_
          exact h
        rw [if_pos (by omega)] at h
        exact h
      refine ⟨by omega, by omega, fun q9 => ?_, fun q9 => ?_⟩
      · exact J _ (by rw [if_neg (by omega)])
      exact J _ (by rw [if_pos (by omega)])
    rw [if_neg q8] at h
    refine ⟨by omega, fun q14 => ?_, fun q14 => ?_⟩
    · rw [if_neg (by omega)] at h
      refine ⟨by omega, fun q15 => ?_, fun q15 => ?_⟩
      · rw [if_neg (by omega)] at h
        exact h
      rw [if_pos (by omega)] at h
      exact h
    rw [if_pos (by omega)] at h
    refine ⟨by omega, ?_⟩
    exact h
  rw [if_pos (by omega)] at h
  exact h
theorem qX5_wanted_loop (hr : 0 ≤ r ∧ r ≤ 12) (hs : 0 ≤ s ∧ s < 4) (hG : BG g) (hB : BV (v s)) (h : Q (0, wantedV g (v s)) (wk μ r g v W)) : ∀ (d k : Nat) (t5 : Nat) (x5 : Int), (k : Int) + d = v s 9 → OkE mX5_wanted 34 [(105, 0), (0, r), (0, s), (0, mxN g (v s) k), (0, (k : Int)), (t5, x5)] [] (wk μ r g v W) Q
  | 0, k, t5, x5, hd => by
    have hB2 := hB
    obtain ⟨-, -, -, -, -, -, -, -, -, -, h9, -⟩ := hB2
    refine OkE.go snX5_wanted [34] 100 ?_
    refine qX5_at ?_
    refine ⟨by omega, fun x1 e1 => ?_⟩
    obtain rfl := e1.trans (rd_v s 9 rfl (by omega) (by omega))
    refine ⟨by omega, by omega, fun _ => ?_, fun q => absurd q (by omega)⟩
    unfold wantedV at h
    rw [show (v s 9).toNat = k by omega] at h
    exact h
  | d + 1, k, t5, x5, hd => by
    have hB2 := hB
    obtain ⟨-, -, -, -, -, -, -, -, -, -, h9, -, -, -, -, -, -, hM⟩ := hB2
    obtain ⟨-, -, hv, -⟩ := hM (k : Int) (by omega) (by omega)
    have hb1 := mxN_bd (g := g) hB k (by omega)
    have hb2 := wantV_bd (g := g) (m := (k : Int)) (x := v s (37 + 21 * (k : Int))) hB (by omega) hv
    have ih := qX5_wanted_loop hr hs hG hB h d (k + 1)
    refine OkE.go snX5_wanted [34] 100 ?_
    refine qX5_at ?_
    refine ⟨by omega, fun x1 e1 => ?_⟩
    obtain rfl := e1.trans (rd_v s 9 rfl (by omega) (by omega))
    refine ⟨by omega, by omega, fun q => absurd q (by omega), fun _ => ?_⟩
    refine qX5_atMeasure ?_
    refine ⟨by omega, fun x2 e2 => ?_⟩
    obtain rfl := e2.trans (rd_v s (37 + 21 * (k : Int)) rfl (by omega) (by omega))
    refine qX5_wantOf hr hs hG hB (by omega) hv ?_
    refine ⟨by omega, by omega, fun q => ?_, fun q => ?_⟩
    · have e : mxN g (v s) (k + 1) = mxN g (v s) k := by
        show max (mxN g (v s) k) _ = _
        omega
      have ih2 := ih 0 (wantV g (v s) (k : Int) (v s (37 + 21 * (k : Int)))) (by omega)
      rw [e] at ih2
      exact ih2
    · have e : mxN g (v s) (k + 1) = wantV g (v s) (k : Int) (v s (37 + 21 * (k : Int))) := by
        show max (mxN g (v s) k) _ = _
        omega
      have ih2 := ih 0 (wantV g (v s) (k : Int) (v s (37 + 21 * (k : Int)))) (by omega)
      rw [e] at ih2
      exact ih2
theorem qX5_wanted (hr : 0 ≤ r ∧ r ≤ 12) (hs : 0 ≤ s ∧ s < 4) (hG : BG g) (hB : BV (v s)) (h : Q (0, wantedV g (v s)) (wk μ r g v W)) : MetP mX5_wanted [(105, 0), (0, r), (0, s)] (wk μ r g v W) Q := by
  have hB2 := hB
  obtain ⟨-, -, -, -, -, -, -, -, -, -, h9, -⟩ := hB2
  have hl := qX5_wanted_loop hr hs hG hB h (v s 9).toNat 0
  refine MetP.go snX5_wanted [34] 100 rfl rfl rfl rfl (fun _ => ?_)
  refine qX5_at ?_
  refine ⟨by omega, fun x1 e1 => ?_⟩
  obtain rfl := e1.trans (rd_v s 9 rfl (by omega) (by omega))
  have hl2 := hl 9 0 (by omega)
  unfold mxN at hl2
  refine ⟨by omega, fun q => ?_, fun q => ?_⟩
  · rw [if_neg q] at hl2
    exact hl2
  · rw [if_pos (by omega)] at hl2
    refine qX5_at ?_
    refine ⟨by omega, fun x1 e1 => ?_⟩
    obtain rfl := e1.trans (rd_v s 0 rfl (by omega) (by omega))
    exact hl2
/-- step 1, of the services below i -/
def wakeTo (v : Mem) (i : Int) : Mem := fun s w => if 0 ≤ s ∧ s < i then wakeV (v s) w else v s w
theorem wakeTo_succ {i : Int} (hi : 0 ≤ i) : upm (upm (wakeTo v i) i 10 (v i 10 + v i 11)) i 11 0 = wakeTo v (i + 1) := by
  funext s w
  unfold upm wakeTo wakeV upg
  by_cases h1 : s = i
  · subst h1
    simp only [true_and]
    rw [if_neg (by omega : ¬ (0 ≤ s ∧ s < s)), if_pos (by omega : 0 ≤ s ∧ s < s + 1)]
  · rw [if_neg (by omega), if_neg (by omega)]
    by_cases h2 : 0 ≤ s ∧ s < i
    · rw [if_pos h2, if_pos (show 0 ≤ s ∧ s < i + 1 by omega)]
    · rw [if_neg h2, if_neg (show ¬ (0 ≤ s ∧ s < i + 1) by omega)]
theorem wakeTo_at {i w : Int} : wakeTo v i i w = v i w := by
  unfold wakeTo
  rw [if_neg (by omega)]
theorem wakeTo_0 : wakeTo v 0 = v := by
  funext s w
  unfold wakeTo
  rw [if_neg (by omega)]
theorem qX5_starts_loop (hr : 0 ≤ r ∧ r ≤ 12) (hn : 1 ≤ g 7 ∧ g 7 ≤ 4) (h : Q (9, 0) (wk μ r g (wakeTo v (g 7)) W)) : ∀ (d : Nat) (s : Int), 0 ≤ s → s + d = g 7 → OkE mX5_starts 2 [(105, 0), (0, r), (0, s)] [] (wk μ r g (wakeTo v s) W) Q
  | 0, s, h0, hd => by
    refine OkE.go snX5_starts [2] 100 ?_
    refine qX5_of 7 hr (by omega) ?_
    refine ⟨by omega, by omega, fun _ => ?_, fun q => absurd q (by omega)⟩
    rw [show s = g 7 by omega]
    exact h
  | d + 1, s, h0, hd => by
    refine OkE.go snX5_starts [2] 100 ?_
    refine qX5_of 7 hr (by omega) ?_
    refine ⟨by omega, by omega, fun q => absurd q (by omega), fun _ => ?_⟩
    refine qX5_at ?_
    refine ⟨by omega, fun x1 e1 => ?_⟩
    obtain rfl := e1.trans (rd_v s 10 rfl (by omega) (by omega))
    refine qX5_at ?_
    refine ⟨by omega, fun x1 e1 => ?_⟩
    obtain rfl := e1.trans (rd_v s 11 rfl (by omega) (by omega))
    refine ⟨by omega, fun ν d1 => ?_⟩
    obtain rfl := d1.trans (wr_v s 10 rfl (by omega) (by omega))
    refine qX5_at ?_
    refine ⟨by omega, fun ν d2 => ?_⟩
    obtain rfl := d2.trans (wr_v s 11 rfl (by omega) (by omega))
    have ih := qX5_starts_loop hr hn h d (s + 1) (by omega) (by omega)
    rw [← wakeTo_succ h0] at ih
    rw [wakeTo_at, wakeTo_at]
    exact ih
theorem qX5_starts (hr : 0 ≤ r ∧ r ≤ 12) (hn : 1 ≤ g 7 ∧ g 7 ≤ 4) (h : Q (9, 0) (wk μ r g (wakeTo v (g 7)) W)) : MetP mX5_starts [(105, 0), (0, r)] (wk μ r g v W) Q := by
  have hl := qX5_starts_loop hr hn h (g 7).toNat 0 (by omega) (by omega)
  rw [wakeTo_0] at hl
  refine MetP.go snX5_starts [2] 100 rfl rfl rfl rfl (fun _ => ?_)
  exact hl
theorem qX5_sumOf_loop {t n : Int} (hr : 0 ≤ r ∧ r ≤ 12) (hs : 0 ≤ s ∧ s < 4) (ht : 0 ≤ t ∧ t + n ≤ 98) (hn : 0 ≤ n ∧ n ≤ 50) (h : Q (0, sumI (fun k => v s (t + k)) n) (wk μ r g v W)) : ∀ (d : Nat) (k a : Int), 0 ≤ k → k + d = n → a = sumI (fun k => v s (t + k)) k → OkE mX5_sumOf 6 [(105, 0), (0, r), (0, s), (0, t), (0, n), (0, a), (0, k)] [] (wk μ r g v W) Q
  | 0, k, a, h0, hd, ha => by
    refine OkE.go snX5_sumOf [6] 100 ?_
    refine ⟨by omega, by omega, fun _ => ?_, fun q => absurd q (by omega)⟩
    rw [ha, show k = n by omega]
    exact h
  | d + 1, k, a, h0, hd, ha => by
    refine OkE.go snX5_sumOf [6] 100 ?_
    refine ⟨by omega, by omega, fun q => absurd q (by omega), fun _ => ?_⟩
    refine qX5_at ?_
    refine ⟨by omega, fun x1 e1 => ?_⟩
    obtain rfl := e1.trans (rd_v s (t + k) rfl (by omega) (by omega))
    exact qX5_sumOf_loop hr hs ht hn h d (k + 1) _ (by omega) (by omega) (by rw [sumI_succ _ h0, ha])
theorem qX5_sumOf {t n : Int} (hr : 0 ≤ r ∧ r ≤ 12) (hs : 0 ≤ s ∧ s < 4) (ht : 0 ≤ t ∧ t + n ≤ 98) (hn : 0 ≤ n ∧ n ≤ 50) (h : Q (0, sumI (fun k => v s (t + k)) n) (wk μ r g v W)) : MetP mX5_sumOf [(105, 0), (0, r), (0, s), (0, t), (0, n)] (wk μ r g v W) Q := by
  refine MetP.go snX5_sumOf [6] 100 rfl rfl rfl rfl (fun _ => ?_)
  exact qX5_sumOf_loop hr hs ht hn h n.toNat 0 0 (by omega) (by omega) rfl
/-- the least, or the greatest, of the latest wants -/
def lohi (b x : Int) (u : Int → Int) (k : Nat) : Int := if b = 0 then highN x u k else lowN x u k
theorem qX5_ofWants_loop {x b n : Int} (hr : 0 ≤ r ∧ r ≤ 12) (hs : 0 ≤ s ∧ s < 4) (hb : b = 0 ∨ b = 1) (hn : 1 ≤ n ∧ n ≤ 6) (hx : 0 ≤ x ∧ x ≤ 300000) (hu : ∀ k, 18 ≤ k → k ≤ 23 → 0 ≤ v s k ∧ v s k ≤ 300000) (h24 : 0 ≤ v s 24 ∧ v s 24 ≤ 6) (h : Q (0, lohi b x (v s) (min (n - 1) (v s 24)).toNat) (wk μ r g v W)) : ∀ (d k : Nat) (t7 : Nat) (x7 : Int), (k : Int) + d = min (n - 1) (v s 24) → OkE mX5_ofWants 11 [(105, 0), (0, r), (0, s), (0, n), (0, b), (0, lohi b x (v s) k), (0, (k : Int)), (t7, x7)] [] (wk μ r g v W) Q
  | 0, k, t7, x7, hd => by
    rw [show (min (n - 1) (v s 24)).toNat = k by omega] at h
    refine OkE.go snX5_ofWants [11] 100 ?_
    refine ⟨by omega, by omega, fun _ => ?_, fun q => ?_⟩
    · exact h
    refine qX5_at ?_
    refine ⟨by omega, fun x1 e1 => ?_⟩
    obtain rfl := e1.trans (rd_v s 24 rfl (by omega) (by omega))
    refine ⟨by omega, by omega, fun _ => ?_, fun q => absurd q (by omega)⟩
    exact h
  | d + 1, k, t7, x7, hd => by
    have ih := fun y => qX5_ofWants_loop hr hs hb hn hx hu h24 h d (k + 1) 0 y (by omega)
    have hbd := lowN_bd hx hu k (by omega)
    have huk := hu (18 + (k : Int)) (by omega) (by omega)
    have hlo : 0 ≤ lohi b x (v s) k ∧ lohi b x (v s) k ≤ 300000 := by unfold lohi; split <;> omega
    refine OkE.go snX5_ofWants [11] 100 ?_
    refine ⟨by omega, by omega, fun q => absurd q (by omega), fun _ => ?_⟩
    refine qX5_at ?_
    refine ⟨by omega, fun x1 e1 => ?_⟩
    obtain rfl := e1.trans (rd_v s 24 rfl (by omega) (by omega))
    refine ⟨by omega, by omega, fun q => absurd q (by omega), fun _ => ?_⟩
    refine qX5_at ?_
    refine ⟨by omega, fun x1 e1 => ?_⟩
    obtain rfl := e1.trans (rd_v s (18 + (k : Int)) rfl (by omega) (by omega))
    have ih1 := ih (v s (18 + (k : Int)))
    refine ⟨by omega, fun q => ?_, fun q => ?_⟩
    · have e : lohi b x (v s) (k + 1) = max (lohi b x (v s) k) (v s (18 + (k : Int))) := by
        unfold lohi
        rw [if_pos q, if_pos q]
        rfl
      refine ⟨by omega, by omega, fun q2 => ?_, fun q2 => ?_⟩
      · rw [e, show max (lohi b x (v s) k) (v s (18 + (k : Int))) = lohi b x (v s) k by omega] at ih1
        exact ih1
      · rw [e, show max (lohi b x (v s) k) (v s (18 + (k : Int))) = v s (18 + (k : Int)) by omega] at ih1
        exact ih1
    · have e : lohi b x (v s) (k + 1) = min (lohi b x (v s) k) (v s (18 + (k : Int))) := by
        unfold lohi
        rw [if_neg q, if_neg q]
        rfl
      refine ⟨by omega, by omega, fun q2 => ?_, fun q2 => ?_⟩
      · rw [e, show min (lohi b x (v s) k) (v s (18 + (k : Int))) = lohi b x (v s) k by omega] at ih1
        exact ih1
      · rw [e, show min (lohi b x (v s) k) (v s (18 + (k : Int))) = v s (18 + (k : Int)) by omega] at ih1
        exact ih1
theorem qX5_ofWants {x b n : Int} (hr : 0 ≤ r ∧ r ≤ 12) (hs : 0 ≤ s ∧ s < 4) (hb : b = 0 ∨ b = 1) (hn : 1 ≤ n ∧ n ≤ 6) (hx : 0 ≤ x ∧ x ≤ 300000) (hB : BV (v s)) (hW : W 2 s = x) (h : Q (0, lohi b x (v s) (min (n - 1) (v s 24)).toNat) (wk μ r g v W)) : MetP mX5_ofWants [(105, 0), (0, r), (0, s), (0, n), (0, b)] (wk μ r g v W) Q := by
  obtain ⟨-, -, -, -, -, -, -, -, -, -, -, -, -, hu, h24, -⟩ := hB
  refine MetP.go snX5_ofWants [11] 100 rfl rfl rfl rfl (fun _ => ?_)
  refine ⟨by omega, fun x1 e1 => ?_⟩
  obtain rfl := e1.trans ((rd_W (by omega)).trans hW)
  have hl := qX5_ofWants_loop hr hs hb hn hx hu h24 h (min (n - 1) (v s 24)).toNat 0 9 0 (by omega)
  have e : lohi b (x1) (v s) 0 = x1 := by unfold lohi; split <;> rfl
  rw [e] at hl
  exact hl
end M2
