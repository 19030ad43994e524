/-! the order of step 4: strict, total, transitive on those that lack -/
theorem fr_trans {a b c d e f : Int} (hd : 0 < d) (hb : 0 < b) (hf : 0 < f) (h1 : a * d ≤ c * b) (h2 : c * f ≤ e * d) : a * f ≤ e * b := by
  have q1 : a * d * f ≤ c * b * f := Int.mul_le_mul_of_nonneg_right h1 (by omega)
  have q2 : c * f * b ≤ e * d * b := Int.mul_le_mul_of_nonneg_right h2 (by omega)
  have q3 : (a * f) * d ≤ (e * b) * d := by
    have e1 : a * f * d = a * d * f := by rw [Int.mul_assoc, Int.mul_comm f d, ← Int.mul_assoc]
    have e2 : e * b * d = e * d * b := by rw [Int.mul_assoc, Int.mul_comm b d, ← Int.mul_assoc]
    have e3 : c * b * f = c * f * b := by rw [Int.mul_assoc, Int.mul_comm b f, ← Int.mul_assoc]
    rw [e1, e2]
    omega
  exact Int.le_of_mul_le_mul_right q3 hd
theorem fr_trans_lt {a b c d e f : Int} (hd : 0 < d) (hb : 0 < b) (hf : 0 < f) (h1 : a * d ≤ c * b) (h2 : c * f ≤ e * d) (hs : a * d < c * b ∨ c * f < e * d) : a * f < e * b := by
  have e1 : a * f * d = a * d * f := by rw [Int.mul_assoc, Int.mul_comm f d, ← Int.mul_assoc]
  have e2 : e * b * d = e * d * b := by rw [Int.mul_assoc, Int.mul_comm b d, ← Int.mul_assoc]
  have e3 : c * b * f = c * f * b := by rw [Int.mul_assoc, Int.mul_comm b f, ← Int.mul_assoc]
  have q1 : a * d * f ≤ c * b * f := Int.mul_le_mul_of_nonneg_right h1 (by omega)
  have q2 : c * f * b ≤ e * d * b := Int.mul_le_mul_of_nonneg_right h2 (by omega)
  have q3 : (a * f) * d < (e * b) * d := by
    rw [e1, e2]
    rcases hs with hs | hs
    · have := Int.mul_lt_mul_of_pos_right hs hf
      omega
    · have := Int.mul_lt_mul_of_pos_right hs hb
      omega
  exact Int.lt_of_mul_lt_mul_right q3 (by omega)
section ORD
variable {ρ c d : Int → Int} {i j k : Int}
theorem ahd_trans (hi : 0 < d i) (hj : 0 < d j) (hk : 0 < d k) (h1 : ahd ρ c d i j) (h2 : ahd ρ c d j k) : ahd ρ c d i k := by
  unfold ahd at *
  rcases h1 with h1 | ⟨r1, h1⟩
  · rcases h2 with h2 | ⟨r2, -⟩
    · exact Or.inl (by omega)
    · exact Or.inl (by omega)
  · rcases h2 with h2 | ⟨r2, h2⟩
    · exact Or.inl (by omega)
    · refine Or.inr ⟨by omega, ?_⟩
      rcases h1 with h1 | ⟨e1, l1⟩
      · left
        rcases h2 with h2 | ⟨e2, l2⟩
        · exact fr_trans_lt hj hi hk (by omega) (by omega) (Or.inl h1)
        · exact fr_trans_lt hj hi hk (by omega) (by omega) (Or.inl h1)
      · rcases h2 with h2 | ⟨e2, l2⟩
        · left
          exact fr_trans_lt hj hi hk (by omega) (by omega) (Or.inr h2)
        · have q1 := fr_trans (a := c i) (b := d i) (c := c j) (d := d j) (e := c k) (f := d k) hj hi hk (by omega) (by omega)
          have q2 := fr_trans (a := c k) (b := d k) (c := c j) (d := d j) (e := c i) (f := d i) hj hk hi (by omega) (by omega)
          right
          exact ⟨by omega, by omega⟩
theorem ahd_asym (h1 : ahd ρ c d i j) : ¬ ahd ρ c d j i := by
  unfold ahd at *
  omega
theorem ahd_total (hne : i ≠ j) : ahd ρ c d i j ∨ ahd ρ c d j i := by
  unfold ahd
  omega
end ORD
section X8
variable {μ : Mem} {h R : Int} {g : Int → Int} {Q : PV → Mem → Prop}
/-- what the giving out reads of a Service: rank, COUNT, DUE -/
def SvO (μ : Mem) (a : Int) (ρ c d : Int) : Prop := μ (a + 1) 2 = ρ ∧ μ a 3 = c ∧ μ a 15 = d
theorem qX2_goesBefore {a b : Int} {ρa ca da ρb cb db : Int} (ha : SvO μ a ρa ca da) (hb : SvO μ b ρb cb db) (hra : 0 ≤ ρa ∧ ρa ≤ 9) (hrb : 0 ≤ ρb ∧ ρb ≤ 9) (hca : 0 ≤ ca ∧ ca ≤ 20) (hcb : 0 ≤ cb ∧ cb ≤ 20) (hda : 0 ≤ da ∧ da ≤ 20) (hdb : 0 ≤ db ∧ db ≤ 20) (h1 : ρb < ρa ∨ (ρa = ρb ∧ ca * db < cb * da) → Q (0, 1) μ) (h0 : ¬ (ρb < ρa ∨ (ρa = ρb ∧ ca * db < cb * da)) → Q (0, 0) μ) : MetP mX2_goesBefore [(102, a), (102, b)] μ Q := by
  have m1 : 0 ≤ ca * db ∧ ca * db ≤ 400 := by
    refine ⟨Int.mul_nonneg hca.1 hdb.1, ?_⟩
    have q := Int.mul_le_mul_of_nonneg_right hca.2 hdb.1
    omega
  have m2 : 0 ≤ cb * da ∧ cb * da ≤ 400 := by
    refine ⟨Int.mul_nonneg hcb.1 hda.1, ?_⟩
    have q := Int.mul_le_mul_of_nonneg_right hcb.2 hda.1
    omega
  obtain ⟨a2, a3, a15⟩ := ha
  obtain ⟨b2, b3, b15⟩ := hb
  refine MetP.go snX2_goesBefore [] 100 rfl rfl rfl rfl (fun _ => ?_)
  refine ⟨by omega, fun x1 e1 => ?_⟩
  obtain rfl := e1.trans a2
  refine ⟨by omega, fun x2 e2 => ?_⟩
  obtain rfl := e2.trans b2
  refine ⟨by omega, by omega, fun q => ?_, fun q => ?_⟩
  · intro x3 e3
    obtain rfl := e3.trans a3
    intro x4 e4
    obtain rfl := e4.trans b15
    intro x5 e5
    obtain rfl := e5.trans b3
    intro x6 e6
    obtain rfl := e6.trans a15
    refine ⟨by omega, by omega, fun q2 => ?_, fun q2 => ?_⟩
    · exact ⟨by omega, h0 (by omega)⟩
    · exact ⟨by omega, h1 (by omega)⟩
  · refine ⟨by omega, fun x3 e3 => ?_⟩
    obtain rfl := e3.trans a2
    refine ⟨by omega, fun x4 e4 => ?_⟩
    obtain rfl := e4.trans b2
    refine ⟨by omega, by omega, fun q2 => ?_, fun q2 => ?_⟩
    · exact ⟨by omega, h0 (by omega)⟩
    · exact ⟨by omega, h1 (by omega)⟩
/-- the first in need: of those that wait the ahd-least, -1 if none waits -/
theorem qX0_first_loop {n : Int} {ρ c d pl : Int → Int} (hn : 1 ≤ n ∧ n ≤ 4) (h2 : μ h 2 = n) (hs : ∀ s, 0 ≤ s → s < n → SvO μ (h + 2 + 1 + 12 * s) (ρ s) (c s) (d s) ∧ μ (h + 2 + 1 + 12 * s) 16 = pl s ∧ (0 ≤ ρ s ∧ ρ s ≤ 9) ∧ (0 ≤ c s ∧ c s ≤ 20) ∧ (0 ≤ d s ∧ d s ≤ 20) ∧ (-1 ≤ pl s ∧ pl s ≤ 4))
    (hq : ∀ f, ((f = -1 ∧ ∀ s, 0 ≤ s → s < n → ¬ (pl s = -1 ∧ c s < d s)) ∨ (0 ≤ f ∧ f < n ∧ (pl f = -1 ∧ c f < d f) ∧ ∀ s, 0 ≤ s → s < n → pl s = -1 → c s < d s → s ≠ f → ahd ρ c d f s)) → Q (0, f) μ) : ∀ (dd : Nat) (i f : Int) (t3 t4 : Nat) (x3 x4 : Int), 0 ≤ i → i + dd = n → ((f = -1 ∧ ∀ s, 0 ≤ s → s < i → ¬ (pl s = -1 ∧ c s < d s)) ∨ (0 ≤ f ∧ f < i ∧ (pl f = -1 ∧ c f < d f) ∧ ∀ s, 0 ≤ s → s < i → pl s = -1 → c s < d s → s ≠ f → ahd ρ c d f s)) → OkE mX0_firstInNeed 4 [(100, h), (0, f), (0, i), (t3, x3), (t4, x4)] [] μ Q := by
  intro dd
  induction dd with
  | zero =>
    intro i f t3 t4 x3 x4 h0 hd hinv
    refine OkE.go snX0_firstInNeed [4] 100 ?_
    intro y1 e1
    obtain rfl := e1.trans h2
    have hfb : -1 ≤ f ∧ f ≤ 4 := by rcases hinv with ⟨q, -⟩ | ⟨q1, q2, -⟩ <;> omega
    refine ⟨by omega, by omega, fun _ => ?_, fun q => absurd q (by omega)⟩
    have e : i = y1 := by omega
    rw [e] at hinv
    exact hq f hinv
  | succ dd ih =>
    intro i f t3 t4 x3 x4 h0 hd hinv
    have hfb : -1 ≤ f ∧ f ≤ 4 := by rcases hinv with ⟨q, -⟩ | ⟨q1, q2, -⟩ <;> omega
    obtain ⟨⟨s2, s3, s15⟩, s16, sρ, sc, sd, sp⟩ := hs i h0 (by omega)
    have J70 : ∀ f' : Int, ((f' = -1 ∧ ∀ s, 0 ≤ s → s < i + 1 → ¬ (pl s = -1 ∧ c s < d s)) ∨ (0 ≤ f' ∧ f' < i + 1 ∧ (pl f' = -1 ∧ c f' < d f') ∧ ∀ s, 0 ≤ s → s < i + 1 → pl s = -1 → c s < d s → s ≠ f' → ahd ρ c d f' s)) → ∀ z : Int, OkE mX0_firstInNeed 70 [(100, h), (0, f'), (0, i), (102, h + 2 + 1 + 12 * i), (0, z)] [] μ Q := by
      intro f' hinv' z
      refine OkE.go snX0_firstInNeed [4] 100 ?_
      exact ih (i + 1) f' 102 0 _ z (by omega) (by omega) hinv'
    have J43 : ∀ z : Int, (z = 1 ∧ pl i = -1 ∧ c i < d i) ∨ (z = 0 ∧ ¬ (pl i = -1 ∧ c i < d i)) → OkE mX0_firstInNeed 43 [(100, h), (0, f), (0, i), (102, h + 2 + 1 + 12 * i), (t4, x4)] [(0, z)] μ Q := by
      intro z hz
      refine OkE.go snX0_firstInNeed [4, 70] 100 ?_
      refine ⟨by omega, fun q => ?_, fun q => ?_⟩
      · refine J70 f ?_ z
        rcases hinv with ⟨q1, q2⟩ | ⟨q1, q2, q3, q4⟩
        · refine Or.inl ⟨q1, fun s p1 p2 => ?_⟩
          by_cases hsi : s = i
          · subst hsi; omega
          · exact q2 s p1 (by omega)
        · refine Or.inr ⟨q1, by omega, q3, fun s p1 p2 p3 p4 p5 => ?_⟩
          by_cases hsi : s = i
          · subst hsi; omega
          · exact q4 s p1 (by omega) p3 p4 p5
      have hwi : pl i = -1 ∧ c i < d i := by omega
      refine ⟨by omega, by omega, fun q2 => ?_, fun q2 => ?_⟩
      · refine J70 i ?_ z
        rcases hinv with ⟨q3, q4⟩ | ⟨q3, -⟩
        · refine Or.inr ⟨h0, by omega, hwi, fun s p1 p2 p3 p4 p5 => ?_⟩
          exact absurd ⟨p3, p4⟩ (q4 s p1 (by omega))
        · exact absurd q2 (by omega)
      · rcases hinv with ⟨q3, -⟩ | ⟨q3, q4, q5, q6⟩
        · exact absurd q3 q2
        obtain ⟨f1, f16, fρ, fc, fd, fp⟩ := hs f q3 (by omega)
        refine ⟨by omega, ?_⟩
        refine qX2_goesBefore ⟨s2, s3, s15⟩ f1 sρ fρ sc fc sd fd (fun hb => ?_) (fun hb => ?_)
        · refine ⟨by omega, fun q7 => absurd q7 (by omega), fun _ => ?_⟩
          have hif : ahd ρ c d i f := by
            unfold ahd
            omega
          refine J70 i (Or.inr ⟨h0, by omega, hwi, fun s p1 p2 p3 p4 p5 => ?_⟩) z
          by_cases hsf : s = f
          · rw [hsf]; exact hif
          · obtain ⟨-, -, -, gc, gd, -⟩ := hs s p1 (by omega)
            exact ahd_trans (by omega) (by omega) (by omega) hif (q6 s p1 (by omega) p3 p4 hsf)
        · refine ⟨by omega, fun _ => ?_, fun q7 => absurd rfl q7⟩
          have hfi : ahd ρ c d f i := by
            unfold ahd
            omega
          refine J70 f (Or.inr ⟨q3, by omega, q5, fun s p1 p2 p3 p4 p5 => ?_⟩) z
          by_cases hsi : s = i
          · rw [hsi]; exact hfi
          · exact q6 s p1 (by omega) p3 p4 p5
    refine OkE.go snX0_firstInNeed [4, 43] 100 ?_
    intro y1 e1
    obtain rfl := e1.trans h2
    refine ⟨by omega, by omega, fun q => absurd q (by omega), fun _ => ?_⟩
    refine ⟨by omega, ?_⟩
    intro y2 e2
    obtain rfl := e2.trans s16
    refine ⟨by omega, by omega, fun q => ?_, fun q => ?_⟩
    · exact J43 0 (by omega)
    intro y3 e3
    obtain rfl := e3.trans s3
    intro y4 e4
    obtain rfl := e4.trans s15
    refine ⟨by omega, by omega, fun q2 => ?_, fun q2 => ?_⟩
    · exact J43 0 (by omega)
    · exact J43 1 (by omega)
theorem qX0_firstInNeed {n : Int} {ρ c d pl : Int → Int} (hn : 1 ≤ n ∧ n ≤ 4) (h2 : μ h 2 = n) (hs : ∀ s, 0 ≤ s → s < n → SvO μ (h + 2 + 1 + 12 * s) (ρ s) (c s) (d s) ∧ μ (h + 2 + 1 + 12 * s) 16 = pl s ∧ (0 ≤ ρ s ∧ ρ s ≤ 9) ∧ (0 ≤ c s ∧ c s ≤ 20) ∧ (0 ≤ d s ∧ d s ≤ 20) ∧ (-1 ≤ pl s ∧ pl s ≤ 4))
    (hq : ∀ f, ((f = -1 ∧ ∀ s, 0 ≤ s → s < n → ¬ (pl s = -1 ∧ c s < d s)) ∨ (0 ≤ f ∧ f < n ∧ (pl f = -1 ∧ c f < d f) ∧ ∀ s, 0 ≤ s → s < n → pl s = -1 → c s < d s → s ≠ f → ahd ρ c d f s)) → Q (0, f) μ) : MetP mX0_firstInNeed [(100, h)] μ Q := by
  refine MetP.go snX0_firstInNeed [4] 100 rfl rfl rfl rfl (fun _ => ?_)
  exact qX0_first_loop hn h2 hs hq n.toNat 0 (-1) 9 9 0 0 (by omega) (by omega) (Or.inl ⟨rfl, fun s p1 p2 => absurd p2 (by omega)⟩)
end X8
