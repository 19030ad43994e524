theorem giveV_0 {u : Int → Int} (hu : ∀ k, 11 ≤ k → k ≤ 17 → 0 ≤ u k) : giveV u 0 = u := by
  have hz : ∀ j : Nat, j ≤ 7 → lfN u 0 j = 0 := fun j hj => by
    have := lfN_0 (x := 0) hu j 0 rfl (by omega)
    rw [Nat.zero_add] at this
    exact this
  funext w
  unfold giveV upg
  split
  · rename_i h
    subst h
    rw [hz 7 (by omega)]
    omega
  · unfold giveN
    split
    · rename_i h
      rw [hz _ (by omega)]
      have := hu w (by omega) (by omega)
      omega
    · rfl
def ahd (ρ c d : Int → Int) (a b : Int) : Prop := ρ b < ρ a ∨ (ρ a = ρ b ∧ (c a * d b < c b * d a ∨ (c a * d b = c b * d a ∧ a < b)))
section M6
variable {μ : Mem} {r s m : Int} {g : Int → Int} {v W : Mem} {Q : PV → Mem → Prop}
theorem qX5_givesUp {dd : Int} (hr : 0 ≤ r ∧ r ≤ 12) (hs : 0 ≤ s ∧ s < 4) (hB : BV (v s)) (hd : 0 ≤ dd ∧ dd ≤ 20) (hW : W 5 s = dd) (h : Q (9, 0) (wk μ r g (setS v s (giveV (v s) (max (cntV (v s) - dd) 0))) (upm W 9 s (max (cntV (v s) - dd) 0)))) : MetP mX5_givesUp [(105, 0), (0, r), (0, s)] (wk μ r g v W) Q := by
  have hc := cntV_bd hB
  have hu : ∀ k, 11 ≤ k → k ≤ 17 → 0 ≤ v s k ∧ v s k ≤ 100 := by
    intro k h1 h2
    obtain ⟨-, -, -, -, -, -, -, -, -, -, -, hb, hc2, -⟩ := hB
    unfold cntV at hc2
    rcases (show k = 11 ∨ k = 12 ∨ k = 13 ∨ k = 14 ∨ k = 15 ∨ k = 16 ∨ k = 17 by omega) with rfl | rfl | rfl | rfl | rfl | rfl | rfl <;> omega
  have J : ∀ z, z = max (cntV (v s) - dd) 0 → OkE mX5_givesUp 28 [(105, 0), (0, r), (0, s), (0, cntV (v s) - dd), (9, 0), (9, 0)] [(0, z), (0, s), (1104, 0 + 9)] (wk μ r g v W) Q := by
    intro z hz
    rw [← hz] at h
    refine OkE.go snX5_givesUp [33] 100 ?_
    refine ⟨by omega, fun ν d => ?_⟩
    obtain rfl := d.trans (wr_W (by omega))
    by_cases hp : 0 < cntV (v s) - dd
    · have e : z = cntV (v s) - dd := by omega
      have hl := qX5_givesUp_loop hr hs hu (x := z) (by omega) h 7 0 9 0 (by omega)
      have e2 : giveN (v s) z 0 = v s := by
        funext w
        unfold giveN
        rw [if_neg (by omega)]
      rw [e2, setS_self, show lfN (v s) z 0 = z from rfl, e] at hl
      rw [← e] at hl ⊢
      exact hl
    · have e : z = 0 := by omega
      rw [e, giveV_0 (fun k h1 h2 => (hu k h1 h2).1)] at h
      rw [e]
      refine OkE.go snX5_givesUp [113] 100 ?_
      refine ⟨by omega, fun q => absurd q (by omega), fun _ => ?_⟩
      refine ⟨by omega, fun _ => ?_, fun q => absurd q (by omega)⟩
      have hf := qX5_givesUp_end (μ := μ) (g := g) (v := v) (W := upm W 9 s 0) (u := v s) (lf := cntV (v s) - dd) (k := 6) (x5 := 0) (t5 := 9) (Q := Q) hr hs (by omega) (by
        rw [show v s 10 - max (cntV (v s) - dd) 0 = v s 10 by omega]
        have e3 : upg (v s) 10 (v s 10) = v s := by
          funext w
          unfold upg
          split
          · rename_i q; rw [q]
          · rfl
        rw [e3]
        exact h)
      rw [setS_self] at hf
      exact hf
  refine MetP.go snX5_givesUp [28] 100 rfl rfl rfl rfl (fun _ => ?_)
  refine qX5_countOf hr hs ?_
  refine ⟨by omega, fun x1 e1 => ?_⟩
  obtain rfl := e1.trans ((rd_W (by omega)).trans hW)
  refine ⟨by omega, fun q => ?_, fun q => ?_⟩
  · exact J _ (by omega)
  · exact J _ (by omega)
theorem qX5_isAhead {a b : Int} (hr : 0 ≤ r ∧ r ≤ 12) (ha : 0 ≤ a ∧ a < 4) (hb : 0 ≤ b ∧ b < 4) (hra : 0 ≤ v a 2 ∧ v a 2 ≤ 9) (hrb : 0 ≤ v b 2 ∧ v b 2 ≤ 9) (hca : 0 ≤ W 6 a ∧ W 6 a ≤ 1000) (hcb : 0 ≤ W 6 b ∧ W 6 b ≤ 1000) (hda : 0 ≤ W 5 a ∧ W 5 a ≤ 1000) (hdb : 0 ≤ W 5 b ∧ W 5 b ≤ 1000)
    (h1 : ahd (fun s => v s 2) (W 6) (W 5) a b → Q (0, 1) (wk μ r g v W)) (h0 : ¬ ahd (fun s => v s 2) (W 6) (W 5) a b → Q (0, 0) (wk μ r g v W)) : MetP mX5_isAhead [(105, 0), (0, r), (0, a), (0, b)] (wk μ r g v W) Q := by
  have m1 : 0 ≤ W 6 a * W 5 b ∧ W 6 a * W 5 b ≤ 1000000 := by
    refine ⟨Int.mul_nonneg hca.1 hdb.1, ?_⟩
    have q := Int.mul_le_mul_of_nonneg_right hca.2 hdb.1
    omega
  have m2 : 0 ≤ W 6 b * W 5 a ∧ W 6 b * W 5 a ≤ 1000000 := by
    refine ⟨Int.mul_nonneg hcb.1 hda.1, ?_⟩
    have q := Int.mul_le_mul_of_nonneg_right hcb.2 hda.1
    omega
  unfold ahd at h1 h0
  dsimp only at h1 h0
  refine MetP.go snX5_isAhead [] 100 rfl rfl rfl rfl (fun _ => ?_)
  refine qX5_at ?_
  refine ⟨by omega, fun x1 e1 => ?_⟩
  obtain rfl := e1.trans (rd_v a 2 rfl (by omega) (by omega))
  refine qX5_at ?_
  refine ⟨by omega, fun x1 e1 => ?_⟩
  obtain rfl := e1.trans (rd_v b 2 rfl (by omega) (by omega))
  refine ⟨by omega, fun x1 e1 => ?_⟩
  obtain rfl : x1 = W 6 a := e1.trans (rd_W (by omega))
  refine ⟨by omega, fun x1 e1 => ?_⟩
  obtain rfl : x1 = W 5 b := e1.trans (rd_W (by omega))
  refine ⟨by omega, fun x1 e1 => ?_⟩
  obtain rfl : x1 = W 6 b := e1.trans (rd_W (by omega))
  refine ⟨by omega, fun x1 e1 => ?_⟩
  obtain rfl : x1 = W 5 a := e1.trans (rd_W (by omega))
  refine ⟨by omega, fun q => ?_, fun q => ?_⟩
  · exact ⟨by omega, h1 (by omega)⟩
  refine ⟨by omega, fun q2 => ?_, fun q2 => ?_⟩
  · exact ⟨by omega, h0 (by omega)⟩
  refine ⟨by omega, fun q3 => ?_, fun q3 => ?_⟩
  · exact ⟨by omega, h1 (by omega)⟩
  refine ⟨by omega, fun q4 => ?_, fun q4 => ?_⟩
  · exact ⟨by omega, h0 (by omega)⟩
  refine ⟨by omega, by omega, fun q5 => ?_, fun q5 => ?_⟩
  · exact ⟨by omega, h0 (by omega)⟩
  · exact ⟨by omega, h1 (by omega)⟩
end M6
