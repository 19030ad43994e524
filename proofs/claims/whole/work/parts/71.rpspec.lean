/-! REPLAY: the house of one service, its rounds -/
def rpG (g : Int → Int) : Int → Int := upg (upg (upg (upg (fun _ => 0) 0 60) 1 (g 1)) 4 (g 4)) 7 1
def rpV (U : Int → Int) : Mem := fun s w => if s = 0 then U w else 0
def rpF (u : Int → Int) (a b : Int) : Int → Int := upg (upg (upg (fun j => if 0 ≤ j ∧ j < 10 then u j else 0) 3 a) 4 b) 10 (u 0)
def rpK (u : Int → Int) (a b n : Int) : Int → Int := fun j => if 35 ≤ j ∧ j < 98 ∧ (j - 35) / 21 < n ∧ (j - 35) % 21 ≤ 1 then u j else rpF u a b j
def rpU (u : Int → Int) (a b : Int) : Int → Int := rpK u a b (u 9)
def vlU (U : Int → Int) (n : Int) (f : Int → Int) : Int → Int := fun j => if 37 ≤ j ∧ (j - 37) % 21 = 0 ∧ (j - 37) / 21 < n then f ((j - 37) / 21) else U j
def vlV (V : Mem) (n : Int) (f : Int → Int) : Mem := fun s w => if s = 0 then vlU (V 0) n f w else V s w
def rpX (g u : Int → Int) (a b P : Int) (W : Mem) : Nat → GS
  | 0 => (rpG g, rpV (rpU u a b), W)
  | i + 1 => doesX (rpX g u a b P W i).1 (vlV (rpX g u a b P W i).2.1 (u 9) (fun m => u (38 + 21 * m + (P - 1 - (i : Int))))) (rpX g u a b P W i).2.2
section T71
variable {g u U f : Int → Int} {v W V : Mem} {r s m x a b P n : Int}
theorem rpV_0 : rpV U 0 = U := by
  funext w
  unfold rpV
  rw [if_pos rfl]
theorem rpV_up {j x : Int} : upm (rpV U) 0 j x = rpV (upg U j x) := by
  funext s w
  unfold upm rpV upg
  by_cases hs : s = 0
  · rw [if_pos hs, if_pos hs]
    by_cases hw : w = j
    · rw [if_pos ⟨hs, hw⟩, if_pos hw]
    · rw [if_neg (by omega), if_neg hw]
  · rw [if_neg (by omega), if_neg hs, if_neg hs]
theorem vlV_00 : vlV V n f 0 = vlU (V 0) n f := by
  funext w
  unfold vlV
  rw [if_pos rfl]
theorem vlU_0 : vlU U 0 f = U := by
  funext j
  unfold vlU
  rw [if_neg (by omega)]
theorem vlV_0 : vlV V 0 f = V := by
  funext s w
  unfold vlV
  rw [vlU_0]
  split
  · rename_i h; rw [h]
  · rfl
theorem vlU_at (hm : 0 ≤ m ∧ m < n) : vlU U n f (37 + 21 * m) = f m := by
  unfold vlU
  rw [if_pos (by omega)]
  congr 1; omega
theorem vlU_ne {j : Int} (h : ¬ (37 ≤ j ∧ (j - 37) % 21 = 0 ∧ (j - 37) / 21 < n)) : vlU U n f j = U j := by
  unfold vlU
  rw [if_neg h]
theorem vlU_vl {f' : Int → Int} : vlU (vlU U n f) n f' = vlU U n f' := by
  funext j
  unfold vlU
  by_cases h : 37 ≤ j ∧ (j - 37) % 21 = 0 ∧ (j - 37) / 21 < n
  · rw [if_pos h, if_pos h]
  · rw [if_neg h, if_neg h, if_neg h]
theorem vlV_up (hm : 0 ≤ m) : upm (vlV V m f) 0 (35 + 21 * m + 2) (f m) = vlV V (m + 1) f := by
  funext s w
  unfold upm vlV vlU
  by_cases hs : s = 0
  · rw [if_pos hs, if_pos hs]
    by_cases hw : w = 35 + 21 * m + 2
    · rw [if_pos ⟨hs, hw⟩, if_pos (by omega)]
      congr 1; omega
    · rw [if_neg (by omega)]
      by_cases h : 37 ≤ w ∧ (w - 37) % 21 = 0 ∧ (w - 37) / 21 < m
      · rw [if_pos h, if_pos (by omega)]
      · rw [if_neg h, if_neg (by omega)]
  · rw [if_neg (by omega), if_neg hs, if_neg hs]
theorem BV_vl (hB : BV U) (h9 : U 9 = n) (hf : ∀ m, 0 ≤ m → m < n → -1 ≤ f m ∧ f m ≤ 9999) : BV (vlU U n f) := by
  have b9 := BV_9 hB
  have L : ∀ j, j < 37 → vlU U n f j = U j := fun j hj => vlU_ne (by omega)
  have ec : cntV (vlU U n f) = cntV U := by
    unfold cntV
    rw [L 10 (by omega), L 11 (by omega), L 12 (by omega), L 13 (by omega), L 14 (by omega), L 15 (by omega), L 16 (by omega), L 17 (by omega)]
  unfold BV at hB ⊢
  rw [ec]
  obtain ⟨h0, h1, h2, h3, h4, h5, h6, h7, h8, h9', h10, h11, h12, h13, h14, h15, h16, h17⟩ := hB
  rw [L 0 (by omega), L 1 (by omega), L 2 (by omega), L 3 (by omega), L 4 (by omega), L 5 (by omega), L 6 (by omega), L 7 (by omega), L 8 (by omega), L 9 (by omega), L 10 (by omega), L 11 (by omega), L 12 (by omega), L 13 (by omega), L 14 (by omega), L 15 (by omega), L 16 (by omega), L 17 (by omega), L 24 (by omega), L 31 (by omega)]
  refine ⟨h0, h1, h2, h3, h4, h5, h6, h7, h8, h9', h10, h11, h12, fun k p q => ?_, h14, fun k p q => ?_, h16, fun m' p q => ?_⟩
  · rw [L k (by omega)]; exact h13 k p q
  · rw [L k (by omega)]; exact h15 k p q
  · obtain ⟨a1, a2, a3, a4⟩ := h17 m' p q
    refine ⟨?_, ?_, ?_, fun k p2 q2 => ?_⟩
    · rw [vlU_ne (by omega)]; exact a1
    · rw [vlU_ne (by omega)]; exact a2
    · rw [vlU_at ⟨p, by omega⟩]; exact hf m' p (by omega)
    · rw [vlU_ne (by omega)]; exact a4 k p2 q2
theorem rpF_lo {j : Int} (h : 0 ≤ j ∧ j < 10) (h3 : j ≠ 3) (h4 : j ≠ 4) : rpF u a b j = u j := by
  unfold rpF
  rw [upg_ne (by omega), upg_ne h4, upg_ne h3, if_pos h]
theorem rpF_3 : rpF u a b 3 = a := by
  unfold rpF
  rw [upg_ne (by omega), upg_ne (by omega), upg_at]
theorem rpF_4 : rpF u a b 4 = b := by
  unfold rpF
  rw [upg_ne (by omega), upg_at]
theorem rpF_10 : rpF u a b 10 = u 0 := by
  unfold rpF
  rw [upg_at]
theorem rpF_hi {j : Int} (h : 10 < j) : rpF u a b j = 0 := by
  unfold rpF
  rw [upg_ne (by omega), upg_ne (by omega), upg_ne (by omega), if_neg (by omega)]
theorem rpU_lo {j : Int} (h : j < 35) : rpU u a b j = rpF u a b j := by
  unfold rpU rpK
  rw [if_neg (by omega)]
theorem rpU_k (hm : 0 ≤ m ∧ m < u 9) (h9 : u 9 ≤ 3) : rpU u a b (35 + 21 * m) = u (35 + 21 * m) ∧ rpU u a b (36 + 21 * m) = u (36 + 21 * m) := by
  unfold rpU rpK
  rw [if_pos (by omega), if_pos (by omega)]
  exact ⟨rfl, rfl⟩
theorem rpU_z {j : Int} (h : 10 < j) (hn : ¬ (35 ≤ j ∧ j < 98 ∧ (j - 35) / 21 < u 9 ∧ (j - 35) % 21 ≤ 1)) : rpU u a b j = 0 := by
  unfold rpU rpK
  rw [if_neg hn, rpF_hi h]
theorem BV_rpU (hB : BV u) (ha : 1 ≤ a ∧ a ≤ 6) (hb : 1 ≤ b ∧ b ≤ 6) : BV (rpU u a b) := by
  have b9 := BV_9 hB
  have Z : ∀ j, 11 ≤ j → j < 35 → rpU u a b j = 0 := fun j p q => rpU_z (by omega) (by omega)
  have K : ∀ j, 0 ≤ j → j < 10 → j ≠ 3 → j ≠ 4 → rpU u a b j = u j := fun j p q p3 p4 => by rw [rpU_lo (by omega), rpF_lo ⟨p, q⟩ p3 p4]
  have e3 : rpU u a b 3 = a := by rw [rpU_lo (by omega), rpF_3]
  have e4 : rpU u a b 4 = b := by rw [rpU_lo (by omega), rpF_4]
  have e10 : rpU u a b 10 = u 0 := by rw [rpU_lo (by omega), rpF_10]
  have ec : cntV (rpU u a b) = u 0 := by
    unfold cntV
    rw [e10, Z 11 (by omega) (by omega), Z 12 (by omega) (by omega), Z 13 (by omega) (by omega), Z 14 (by omega) (by omega), Z 15 (by omega) (by omega), Z 16 (by omega) (by omega), Z 17 (by omega) (by omega)]
    omega
  unfold BV at hB ⊢
  rw [ec]
  obtain ⟨h0, h1, h2, h3, h4, h5, h6, h7, h8, h9', h10, h11, h12, h13, h14, h15, h16, h17⟩ := hB
  rw [K 0 (by omega) (by omega) (by omega) (by omega), K 1 (by omega) (by omega) (by omega) (by omega), K 2 (by omega) (by omega) (by omega) (by omega), e3, e4, K 5 (by omega) (by omega) (by omega) (by omega), K 6 (by omega) (by omega) (by omega) (by omega), K 7 (by omega) (by omega) (by omega) (by omega), K 8 (by omega) (by omega) (by omega) (by omega), K 9 (by omega) (by omega) (by omega) (by omega), e10, Z 11 (by omega) (by omega), Z 12 (by omega) (by omega), Z 13 (by omega) (by omega), Z 14 (by omega) (by omega), Z 15 (by omega) (by omega), Z 16 (by omega) (by omega), Z 17 (by omega) (by omega), Z 24 (by omega) (by omega), Z 31 (by omega) (by omega)]
  refine ⟨h0, h1, h2, h3, ha, hb, h6, h7, h8, h9', h10, by omega, by omega, fun k p q => ?_, by omega, fun k p q => ?_, by omega, fun m' p q => ?_⟩
  · rw [Z k (by omega) (by omega)]; omega
  · rw [Z k (by omega) (by omega)]; omega
  · obtain ⟨a1, a2, a3, a4⟩ := h17 m' p q
    obtain ⟨c1, c2⟩ := rpU_k (a := a) (b := b) ⟨p, q⟩ b9.2
    refine ⟨by rw [c1]; exact a1, by rw [c2]; exact a2, ?_, fun k p2 q2 => ?_⟩
    · rw [rpU_z (by omega) (by omega)]; omega
    · rw [rpU_z (by omega) (by omega)]; omega
theorem rpG_at : rpG g 0 = 60 ∧ rpG g 1 = g 1 ∧ rpG g 2 = 0 ∧ rpG g 3 = 0 ∧ rpG g 4 = g 4 ∧ rpG g 5 = 0 ∧ rpG g 6 = 0 ∧ rpG g 7 = 1 := by
  unfold rpG
  refine ⟨?_, ?_, ?_, ?_, ?_, ?_, ?_, ?_⟩ <;> simp [upg]
theorem BG_rpG (hG : BG g) : BG (rpG g) := by
  obtain ⟨r0, r1, r2, r3, r4, r5, r6, r7⟩ := rpG_at (g := g)
  obtain ⟨g0, g1, g2, g3, g4, g5, g6, g7⟩ := hG
  unfold BG
  rw [r0, r1, r2, r3, r4, r5, r6, r7]
  omega
/-- the replay's rounds keep their bounds -/
theorem rp_ok (hG : BG g) (hB : BV u) (ha : 1 ≤ a ∧ a ≤ 6) (hb : 1 ≤ b ∧ b ≤ 6) (hP : 0 ≤ P ∧ P ≤ 18) : ∀ i : Nat, (i : Int) ≤ P → GOOD (i : Int) (rpX g u a b P W i).1 (rpX g u a b P W i).2.1 ∧ (rpX g u a b P W i).1 7 = 1 ∧ (rpX g u a b P W i).1 6 = (i : Int) ∧ (rpX g u a b P W i).1 2 = 0 ∧ (rpX g u a b P W i).2.1 0 9 = u 9 ∧ (0 ≤ (rpX g u a b P W i).2.1 0 32 ∧ (rpX g u a b P W i).2.1 0 32 ≤ 20 * (i : Int)) ∧ (0 ≤ (rpX g u a b P W i).2.1 0 33 ∧ (rpX g u a b P W i).2.1 0 33 ≤ 300000 * (i : Int)) ∧ (0 ≤ (rpX g u a b P W i).2.1 0 34 ∧ (rpX g u a b P W i).2.1 0 34 ≤ (i : Int))
  | 0, _ => by
    obtain ⟨r0, r1, r2, r3, r4, r5, r6, r7⟩ := rpG_at (g := g)
    show GOOD ((0 : Nat) : Int) (rpG g) (rpV (rpU u a b)) ∧ rpG g 7 = 1 ∧ rpG g 6 = ((0 : Nat) : Int) ∧ rpG g 2 = 0 ∧ rpV (rpU u a b) 0 9 = u 9 ∧ (0 ≤ rpV (rpU u a b) 0 32 ∧ rpV (rpU u a b) 0 32 ≤ 20 * ((0 : Nat) : Int)) ∧ (0 ≤ rpV (rpU u a b) 0 33 ∧ rpV (rpU u a b) 0 33 ≤ 300000 * ((0 : Nat) : Int)) ∧ (0 ≤ rpV (rpU u a b) 0 34 ∧ rpV (rpU u a b) 0 34 ≤ ((0 : Nat) : Int))
    rw [rpV_0, rpU_z (j := 32) (by omega) (by omega), rpU_z (j := 33) (by omega) (by omega), rpU_z (j := 34) (by omega) (by omega)]
    refine ⟨⟨BG_rpG hG, by rw [r6]; omega, fun s p q => ?_⟩, r7, by rw [r6]; rfl, r2, ?_, by omega, by omega, by omega⟩
    · rw [r7] at q
      rw [show s = 0 by omega, rpV_0]
      exact BV_rpU hB ha hb
    · rw [rpU_lo (by omega), rpF_lo (by omega) (by omega) (by omega)]
  | i + 1, hi => by
    obtain ⟨k1, k2, k3, k4, k5, k6, k7, k8⟩ := rp_ok hG hB ha hb hP i (by omega)
    have hB1 : ∀ s, 0 ≤ s → s < (rpX g u a b P W i).1 7 → BV (vlV (rpX g u a b P W i).2.1 (u 9) (fun m => u (38 + 21 * m + (P - 1 - (i : Int)))) s) := by
      intro s p q
      rw [k2] at q
      rw [show s = 0 by omega, vlV_00]
      refine BV_vl (k1.2.2 0 (by omega) (by omega)) k5 (fun m p q => ?_)
      exact (BV_m hB ⟨p, q⟩).2.2.2 (P - 1 - (i : Int)) (by omega) (by omega)
    have k1' : GOOD (i : Int) (rpX g u a b P W i).1 (vlV (rpX g u a b P W i).2.1 (u 9) (fun m => u (38 + 21 * m + (P - 1 - (i : Int))))) := ⟨k1.1, k1.2.1, hB1⟩
    obtain ⟨f1, f2, f3⟩ := does_BG (W := (rpX g u a b P W i).2.2) k1.1 (by omega) hB1
    obtain ⟨t1, t2, t3, t4⟩ := does_sp (W := (rpX g u a b P W i).2.2) k1.1 hB1 (s := 0) (by omega)
    rw [vlV_00, vlU_ne (by omega)] at t1
    rw [vlV_00, vlU_ne (by omega)] at t2
    rw [vlV_00, vlU_ne (by omega)] at t3
    rw [vlV_00, vlU_ne (by omega)] at t4
    have hg := GOOD_does (W := (rpX g u a b P W i).2.2) (by omega) k1'
    refine ⟨hg.le (by omega), ?_, ?_, ?_, ?_, ?_, ?_, ?_⟩
    · show (doesX _ _ _).1 7 = 1
      rw [f2 7 (by omega) (by omega), k2]
    · show (doesX _ _ _).1 6 = _
      rw [f3, k3]; omega
    · show (doesX _ _ _).1 2 = 0
      rw [f2 2 (by omega) (by omega), k4]
    · show (doesX _ _ _).2.1 0 9 = u 9
      rw [t4, k5]
    · show 0 ≤ (doesX _ _ _).2.1 0 32 ∧ (doesX _ _ _).2.1 0 32 ≤ _
      omega
    · show 0 ≤ (doesX _ _ _).2.1 0 33 ∧ (doesX _ _ _).2.1 0 33 ≤ _
      omega
    · show 0 ≤ (doesX _ _ _).2.1 0 34 ∧ (doesX _ _ _).2.1 0 34 ≤ _
      omega
end T71
