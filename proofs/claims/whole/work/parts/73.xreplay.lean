section T73
variable {N : Int} {μ ν : Mem} {g u U f : Int → Int} {v W : Mem} {Q : PV → Mem → Prop} {w x s c R t n m h a b r k q : Int}
theorem BG_3 {G : Int → Int} (hG : BG G) (hr : 0 ≤ r ∧ r ≤ 3) : BG (upg G 3 r) := by
  unfold BG at hG ⊢
  rw [upg_ne (show (0 : Int) ≠ 3 by omega), upg_ne (show (1 : Int) ≠ 3 by omega), upg_ne (show (2 : Int) ≠ 3 by omega), upg_at, upg_ne (show (4 : Int) ≠ 3 by omega), upg_ne (show (5 : Int) ≠ 3 by omega), upg_ne (show (6 : Int) ≠ 3 by omega), upg_ne (show (7 : Int) ≠ 3 by omega)]
  omega
theorem qX2_tellValues (hr : 0 ≤ r ∧ r ≤ 100000) (hdis : c + 12 ≤ q ∨ q + 12 ≤ c) (hS : RelS μ c R U) (h9 : U 9 = n) (hn : 0 ≤ n ∧ n ≤ 3) (hp : ∀ m, 0 ≤ m → m < n → μ (q + 2 + 1 + 2 * m + 1) (r % 32) = f m) (hq : ∀ μ', RelS μ' c R (vlU U n f) → (∀ a b, ¬ (c ≤ a ∧ a < c + 12) → μ' a b = μ a b) → Q (9, 0) μ') : MetP mX2_tellValues [(102, c), (102, q), (0, r)] μ Q := by
  have L : ∀ (d : Nat) (i : Int) (μ' : Mem), 0 ≤ i → i + d = n → RelS μ' c R (vlU U i f) → (∀ a b, ¬ (c ≤ a ∧ a < c + 12) → μ' a b = μ a b) → OkE mX2_tellValues 2 [(102, c), (102, q), (0, r), (0, i)] [] μ' Q := by
    intro d
    induction d with
    | zero =>
      intro i μ' h0 hd k1 k2
      have e9 : vlU U i f 9 = n := by rw [vlU_ne (by omega), h9]
      refine OkE.go snX2_tellValues [2] 100 ?_
      intro x1 e1
      obtain rfl : x1 = n := e1.trans (k1.2.1.1.trans e9)
      refine ⟨by omega, by omega, fun _ => ?_, fun q => absurd q (by omega)⟩
      rw [show i = x1 by omega] at k1
      exact hq μ' k1 k2
    | succ d ih =>
      intro i μ' h0 hd k1 k2
      have e9 : vlU U i f 9 = n := by rw [vlU_ne (by omega), h9]
      refine OkE.go snX2_tellValues [2] 100 ?_
      intro x1 e1
      obtain rfl : x1 = n := e1.trans (k1.2.1.1.trans e9)
      refine ⟨by omega, by omega, fun q => absurd q (by omega), fun _ => ?_⟩
      refine ⟨by omega, ?_⟩
      refine ⟨by omega, ?_⟩
      refine ⟨by omega, by omega, ?_⟩
      refine ⟨by omega, fun x2 e2 => ?_⟩
      obtain rfl : x2 = f i := e2.trans ((k2 (q + 2 + 1 + 2 * i + 1) (r % 32) (by omega)).trans (hp i h0 (by omega)))
      intro μ2 d2
      have d2' : μ2 = upm μ' (c + 2 + 1 + 2 * i) 2 (f i) := d2
      refine ih (i + 1) μ2 (by omega) (by omega) ?_ (fun a b hn => ?_)
      · rw [d2']
        refine RelS_val k1 (by omega) (by omega) (vlU_at (by omega)) (fun j hj => ?_)
        unfold vlU
        by_cases hc : 37 ≤ j ∧ (j - 37) % 21 = 0 ∧ (j - 37) / 21 < i
        · rw [if_pos hc, if_pos (by omega)]
        · rw [if_neg hc, if_neg (by omega)]
      · rw [d2', upm_ne (by omega)]; exact k2 a b hn
  refine MetP.go snX2_tellValues [2] 100 rfl rfl rfl rfl (fun _ => ?_)
  exact L n.toNat 0 μ (by omega) (by omega) (by rw [vlU_0]; exact hS) (fun _ _ _ => rfl)
theorem FRS_rp (hB : BV u) (ha : Int) (hb : Int) : FRS (vlU (rpU u ha hb) (u 9) (fun _ => -1)) := by
  have b9 := BV_9 hB
  refine ⟨?_, fun k p q => ?_, fun m p q => ?_⟩
  · rw [vlU_ne (by omega), vlU_ne (by omega), rpU_lo (by omega), rpU_lo (by omega), rpF_10, rpF_lo (by omega) (by omega) (by omega)]
  · rw [vlU_ne (by omega), rpU_z (by omega) (by omega)]
  · rw [vlU_ne (by omega), rpU_lo (by omega), rpF_lo (by omega) (by omega) (by omega)] at q
    rw [vlU_at ⟨p, q⟩]
theorem qX0_standAlone (hss : 0 ≤ s ∧ s < g 7) (bG : BG g) (hB : BV (v s)) (hH : RelH μ 3 g v) (hq : ∀ μ', RelH μ' 54 (upg (rpG g) 3 (g 3)) (rpV (vlU (rpU (v s) (v s 3) (v s 4)) (v s 9) (fun _ => -1))) → FrH μ μ' 54 → Q (9, 0) μ') : MetP mX0_standAlone [(100, 54), (100, 3), (102, 3 + 2 + 1 + 12 * s)] μ Q := by
  have b7 := bG.2.2.2.2.2.2.2
  have b9 := BV_9 hB
  obtain ⟨⟨a1, a2, a3, a4⟩, a5⟩ := hH
  obtain ⟨r1, ⟨r2, -, -⟩, -, -, -, -, -, -, -, r10⟩ := a5 s hss.1 hss.2
  obtain ⟨p0, p1, p2, p3, p4, p5, p6, p7⟩ := rpG_at (g := g)
  refine MetP.go snX0_standAlone [] 100 rfl rfl rfl rfl (fun _ => ?_)
  refine ⟨by omega, fun μ1 d1 => ?_⟩
  have n1 : ∀ a b, ¬ (a = 55) → μ1 a b = μ a b := fun a b hn => by rw [d1]; dsimp only; rw [if_neg (by omega)]
  have v1 : ∀ b, 0 ≤ b → b < 5 → μ1 55 b = g b := fun b p q => by rw [d1]; dsimp only; rw [if_pos ⟨rfl, p, q⟩]; exact a1 b p q
  refine ⟨by omega, fun μ2 d2 => ?_⟩
  have n2 : ∀ a b, ¬ (a = 55 ∧ b = 0) → μ2 a b = μ1 a b := fun a b hn => by rw [d2]; exact upm_ne hn
  have v2 : μ2 55 0 = 60 := by rw [d2]; exact upm_at _ _ _ _
  refine ⟨by omega, fun μ3 d3 => ?_⟩
  have n3 : ∀ a b, ¬ (a = 55 ∧ b = 2) → μ3 a b = μ2 a b := fun a b hn => by rw [d3]; exact upm_ne hn
  have v3 : μ3 55 2 = 0 := by rw [d3]; exact upm_at _ _ _ _
  intro μ4 d4
  have n4 : ∀ a b, ¬ (a = 54 ∧ b = 2) → μ4 a b = μ3 a b := fun a b hn => by rw [d4]; exact upm_ne hn
  have v4 : μ4 54 2 = 1 := by rw [d4]; exact upm_at _ _ _ _
  have N4 : ∀ a b, ¬ (a = 54 ∨ a = 55) → μ4 a b = μ a b := fun a b hn => by rw [n4 a b (by omega), n3 a b (by omega), n2 a b (by omega), n1 a b (by omega)]
  refine ⟨by omega, ?_⟩
  refine qX2_takeShape (n := v s 9) b9 (by omega) ((N4 _ _ (by omega)).trans r2) (fun μ5 k1 k2 k3 k4 => ?_)
  have N5 : ∀ a b, ¬ (57 ≤ a ∧ a < 69) → μ5 a b = μ4 a b := fun a b hn => k4 a b (by omega) (by omega) (by rintro ⟨j, j1, j2, j3, j4⟩; omega)
  have K9 : vlU (rpU (v s) (v s 3) (v s 4)) (v s 9) (fun _ => -1) 9 = v s 9 := by rw [vlU_ne (by omega), rpU_lo (by omega), rpF_lo (by omega) (by omega) (by omega)]
  have e7 : upg (rpG g) 3 (g 3) 7 = 1 := by rw [upg_ne (by omega), p7]
  refine qX0_begin (g := upg (rpG g) 3 (g 3)) (v := rpV (vlU (rpU (v s) (v s 3) (v s 4)) (v s 9) (fun _ => -1))) (by omega) (fun k p q => ?_) ?_ ?_ ?_ (fun s' p q => ?_) (fun μ6 r6 f6 => hq μ6 r6 (fun a b hn => ?_))
  · rw [N5 _ _ (by omega), n4 _ _ (by omega)]
    rcases (show k = 0 ∨ k = 1 ∨ k = 2 ∨ k = 3 ∨ k = 4 by omega) with rfl | rfl | rfl | rfl | rfl
    · rw [n3 _ _ (by omega), upg_ne (by omega), p0]; exact v2
    · rw [n3 _ _ (by omega), n2 _ _ (by omega), upg_ne (by omega), p1]; exact v1 1 (by omega) (by omega)
    · rw [upg_ne (by omega), p2]; exact v3
    · rw [n3 _ _ (by omega), n2 _ _ (by omega), upg_at]; exact v1 3 (by omega) (by omega)
    · rw [n3 _ _ (by omega), n2 _ _ (by omega), upg_ne (by omega), p4]; exact v1 4 (by omega) (by omega)
  · rw [N5 _ _ (by omega), e7]; exact v4
  · rw [upg_ne (by omega), p6]
  · rw [upg_ne (by omega), upg_ne (by omega), p5, p2]
  · rw [e7] at q
    obtain rfl : s' = 0 := by omega
    rw [rpV_0]
    refine ⟨⟨fun k p q => ?_, ?_, fun m p q => ?_⟩, FRS_rp hB _ _, by rw [K9]; exact b9⟩
    · refine (k1 k p q).trans ((N4 _ _ (by omega)).trans ((r1 k p q).trans ?_))
      rw [vlU_ne (by omega), rpU_lo (by omega)]
      by_cases h3 : k = 3
      · rw [h3, rpF_3]
      · by_cases h4 : k = 4
        · rw [h4, rpF_4]
        · rw [rpF_lo (by omega) h3 h4]
    · exact k2.trans K9.symm
    · rw [K9] at q
      obtain ⟨c1, c2⟩ := k3 m p q
      obtain ⟨c3, c4, -, -⟩ := r10 m p q
      obtain ⟨c5, c6⟩ := rpU_k (u := v s) (a := v s 3) (b := v s 4) ⟨p, q⟩ b9.2
      refine ⟨?_, ?_⟩
      · rw [vlU_ne (by omega), c5]
        exact c1.trans ((N4 _ _ (by omega)).trans c3)
      · rw [vlU_ne (by omega), c6]
        exact c2.trans ((N4 _ _ (by omega)).trans c4)
  · rw [f6 a b hn, N5 a b (by omega), N4 a b (by omega)]
theorem qX4_replayed (W : Mem) (hss : 0 ≤ s ∧ s < g 7) (ha : 1 ≤ a ∧ a ≤ 6) (hb : 1 ≤ b ∧ b ≤ 6) (bG : BG g) (bV : ∀ s, 0 ≤ s → s < g 7 → BV (v s)) (hH : RelH μ 3 g v) (hq : ∀ X μ', X = rpX g (v s) a b (min (g 6) 18) W (min (g 6) 18).toNat → μ' (54 + 2 + 1 + 12 * 0) 9 = X.2.1 0 32 → μ' (54 + 2 + 1 + 12 * 0) 10 = X.2.1 0 33 → μ' (54 + 2 + 1 + 12 * 0) 11 = X.2.1 0 34 → FrH μ μ' 54 → Q (102, 54 + 2 + 1 + 12 * 0) μ') : MetP mX4_replayed [(104, 0), (0, s), (0, a), (0, b)] μ Q := by
  have b7 := bG.2.2.2.2.2.2.2
  have b6 := bG.2.2.2.2.2.2.1
  have b3 := bG.2.2.2.1
  have hB := bV s hss.1 hss.2
  have b9 := BV_9 hB
  have L : ∀ (d i : Nat) (k : Int) (Z : Int → Int) (μ' : Mem), k = (i : Int) → (i : Int) + d = min (g 6) 18 → RelG μ' 54 (upg (rpX g (v s) a b (min (g 6) 18) W i).1 3 (g 3)) → RelS μ' (54 + 2 + 1 + 12 * 0) (i : Int) Z → Z 9 = v s 9 → (∀ f, vlU Z (v s 9) f = vlU ((rpX g (v s) a b (min (g 6) 18) W i).2.1 0) (v s 9) f) → (Z 32 = (rpX g (v s) a b (min (g 6) 18) W i).2.1 0 32 ∧ Z 33 = (rpX g (v s) a b (min (g 6) 18) W i).2.1 0 33 ∧ Z 34 = (rpX g (v s) a b (min (g 6) 18) W i).2.1 0 34) → FrH μ μ' 54 → OkE mX4_replayed 63 [(104, 0), (0, s), (0, a), (0, b), (102, 3 + 2 + 1 + 12 * s), (102, 54 + 2 + 1 + 12 * 0), (0, min (g 6) 18), (0, k)] [] μ' Q := by
    intro d
    induction d with
    | zero =>
      intro i k Z μ' hk hi hG hS h9 hZ hz hF
      refine OkE.go snX4_replayed [63] 100 ?_
      refine ⟨by omega, by omega, fun _ => ?_, fun q => absurd q (by omega)⟩
      obtain ⟨q9, q10, q11⟩ := hS.2.2.2.2.2.2.2.2.1
      refine hq _ μ' rfl ?_ ?_ ?_ hF
      · rw [show (min (g 6) 18).toNat = i by omega, ← hz.1]; exact q9
      · rw [show (min (g 6) 18).toNat = i by omega, ← hz.2.1]; exact q10
      · rw [show (min (g 6) 18).toNat = i by omega, ← hz.2.2]; exact q11
    | succ d ih =>
      intro i k Z μ' hk hi hG hS h9 hZ hz hF
      obtain ⟨k1, k2, k3, k4, k5, -⟩ := rp_ok (W := W) bG hB ha hb (P := min (g 6) 18) (by omega) i (by omega)
      obtain ⟨j1, j2, j3, j4, j5, -⟩ := rp_ok (W := W) bG hB ha hb (P := min (g 6) 18) (by omega) (i + 1) (by omega)
      have h3 : RelH μ' 3 g v := hH.frame b7.2 bV (fun a b p q => hF a b (by omega))
      have hB1 : ∀ s', 0 ≤ s' → s' < (rpX g (v s) a b (min (g 6) 18) W i).1 7 → BV (vlV (rpX g (v s) a b (min (g 6) 18) W i).2.1 (v s 9) (fun m => v s (38 + 21 * m + (min (g 6) 18 - 1 - (i : Int)))) s') := by
        intro s' p q
        rw [k2] at q
        rw [show s' = 0 by omega, vlV_00]
        refine BV_vl (k1.2.2 0 (by omega) (by omega)) k5 (fun m p q => ?_)
        exact (BV_m hB ⟨p, q⟩).2.2.2 (min (g 6) 18 - 1 - (i : Int)) (by omega) (by omega)
      refine OkE.go snX4_replayed [63] 100 ?_
      refine ⟨by omega, by omega, fun q => absurd q (by omega), fun _ => ?_⟩
      intro x1 e1
      obtain rfl : x1 = g 6 := e1.trans h3.1.2.2.2
      refine qX2_tellValues (R := (i : Int)) (U := Z) (n := v s 9) (f := fun m => v s (38 + 21 * m + (min (g 6) 18 - 1 - (i : Int)))) (by omega) (by omega) hS h9 b9 (fun m p q => ?_) (fun μ2 r2 f2 => ?_)
      · have := ((h3.2 s hss.1 hss.2).2.2.2.2.2.2.2.2.2 m p q).2.2.2 (min (g 6) 18 - 1 - (i : Int)) (by omega) (by omega) (by omega)
        rw [show g 6 - 1 - (min (g 6) 18 - 1 - (i : Int)) = g 6 - min (g 6) 18 + k by omega] at this
        exact this
      rw [hZ] at r2
      have e7 : upg (rpX g (v s) a b (min (g 6) 18) W i).1 3 (g 3) 7 = 1 := by rw [upg_ne (by omega), k2]
      have e6 : upg (rpX g (v s) a b (min (g 6) 18) W i).1 3 (g 3) 6 = (i : Int) := by rw [upg_ne (by omega), k3]
      have hg2 : GOOD (i : Int) (upg (rpX g (v s) a b (min (g 6) 18) W i).1 3 (g 3)) (vlV (rpX g (v s) a b (min (g 6) 18) W i).2.1 (v s 9) (fun m => v s (38 + 21 * m + (min (g 6) 18 - 1 - (i : Int))))) := ⟨BG_3 k1.1 b3, by rw [e6]; omega, fun s' p q => hB1 s' p (by rw [k2]; rw [e7] at q; exact q)⟩
      have hH2 : RelH μ2 54 (upg (rpX g (v s) a b (min (g 6) 18) W i).1 3 (g 3)) (vlV (rpX g (v s) a b (min (g 6) 18) W i).2.1 (v s 9) (fun m => v s (38 + 21 * m + (min (g 6) 18 - 1 - (i : Int))))) := by
        refine ⟨⟨fun k p q => ?_, ?_, ?_, ?_⟩, fun s' p q => ?_⟩
        · rw [f2 _ _ (by omega)]; exact hG.1 k p q
        · rw [f2 _ _ (by omega)]; exact hG.2.1
        · rw [f2 _ _ (by omega)]; exact hG.2.2.1
        · rw [f2 _ _ (by omega)]; exact hG.2.2.2
        · rw [e7] at q
          obtain rfl : s' = 0 := by omega
          rw [e6, vlV_00]
          exact r2
      refine qX0_play (rpX g (v s) a b (min (g 6) 18) W i).2.2 hg2 (by omega) hH2 (fun μ3 r3 f3 => ?_)
      rw [g3_does k1.1 hB1 k4 b3.1] at r3
      have r3' : RelH μ3 54 (upg (rpX g (v s) a b (min (g 6) 18) W (i + 1)).1 3 (g 3)) (rpX g (v s) a b (min (g 6) 18) W (i + 1)).2.1 := r3
      have e7' : upg (rpX g (v s) a b (min (g 6) 18) W (i + 1)).1 3 (g 3) 7 = 1 := by rw [upg_ne (by omega), j2]
      have e6' : upg (rpX g (v s) a b (min (g 6) 18) W (i + 1)).1 3 (g 3) 6 = ((i + 1 : Nat) : Int) := by rw [upg_ne (by omega), j3]
      have rs := r3'.2 0 (by omega) (by rw [e7']; omega)
      rw [e6'] at rs
      exact ih (i + 1) (k + 1) _ μ3 (by omega) (by omega) r3'.1 rs j5 (fun _ => rfl) ⟨rfl, rfl, rfl⟩ (fun a b hn => ((f3 a b hn).trans (f2 a b (by omega))).trans (hF a b hn))
  refine MetP.go snX4_replayed [63] 100 rfl rfl rfl rfl (fun _ => ?_)
  refine ⟨by omega, ?_⟩
  refine qX0_standAlone hss bG hB hH (fun μ1 r1 f1 => ?_)
  refine ⟨by omega, ?_⟩
  obtain ⟨p0, p1, p2, p3, p4, p5, p6, p7⟩ := rpG_at (g := g)
  have e7 : upg (rpG g) 3 (g 3) 7 = 1 := by rw [upg_ne (by omega), p7]
  have e6 : upg (rpG g) 3 (g 3) 6 = 0 := by rw [upg_ne (by omega), p6]
  have rs := r1.2 0 (by omega) (by omega)
  rw [e6, rpV_0] at rs
  have q9 : ∀ a b, vlU (rpU (v s) a b) (v s 9) (fun _ => -1) 9 = v s 9 := fun a b => by rw [vlU_ne (by omega), rpU_lo (by omega), rpF_lo (by omega) (by omega) (by omega)]
  refine ⟨by omega, fun μ2 d2 => ?_⟩
  have d2' : μ2 = upm μ1 (54 + 2 + 1 + 12 * 0 + 1) 3 a := d2
  have rs2 : RelS μ2 (54 + 2 + 1 + 12 * 0) 0 (vlU (rpU (v s) a (v s 4)) (v s 9) (fun _ => -1)) := by
    rw [d2']
    refine RelS_num rs (by rw [q9]; exact b9.2) (by omega) ?_ (fun j hj => ?_)
    · rw [vlU_ne (by omega), rpU_lo (by omega), rpF_3]
    · unfold vlU rpU rpK rpF upg
      rw [if_neg hj, if_neg hj]
  refine ⟨by omega, fun μ3 d3 => ?_⟩
  have d3' : μ3 = upm μ2 (54 + 2 + 1 + 12 * 0 + 1) 4 b := d3
  have rs3 : RelS μ3 (54 + 2 + 1 + 12 * 0) 0 (vlU (rpU (v s) a b) (v s 9) (fun _ => -1)) := by
    rw [d3']
    refine RelS_num rs2 (by rw [q9]; exact b9.2) (by omega) ?_ (fun j hj => ?_)
    · rw [vlU_ne (by omega), rpU_lo (by omega), rpF_4]
    · unfold vlU rpU rpK rpF upg
      rw [if_neg hj, if_neg hj]
  have n3 : ∀ a b, ¬ (a = 58) → μ3 a b = μ1 a b := fun a b hn => by rw [d3', upm_ne (by omega), d2', upm_ne (by omega)]
  refine qX0_pastRounds (n := g 6) (by omega) ((n3 3 4 (by omega)).trans ((f1 3 4 (by omega)).trans hH.1.2.2.2)) ?_
  refine L (min (g 6) 18).toNat 0 0 _ μ3 (by omega) (by omega) ⟨fun k p q => ?_, ?_, ?_, ?_⟩ rs3 (q9 _ _) (fun f => ?_) ⟨?_, ?_, ?_⟩ (fun a b hn => (n3 a b (by omega)).trans (f1 a b hn))
  · rw [n3 _ _ (by omega)]; exact r1.1.1 k p q
  · rw [n3 _ _ (by omega)]; exact r1.1.2.1
  · rw [n3 _ _ (by omega)]; exact r1.1.2.2.1
  · rw [n3 _ _ (by omega)]; exact r1.1.2.2.2
  · show _ = vlU (rpV (rpU (v s) a b) 0) (v s 9) f
    rw [rpV_0]; exact vlU_vl
  · show _ = rpV (rpU (v s) a b) 0 32
    rw [rpV_0]; exact vlU_ne (by omega)
  · show _ = rpV (rpU (v s) a b) 0 33
    rw [rpV_0]; exact vlU_ne (by omega)
  · show _ = rpV (rpU (v s) a b) 0 34
    rw [rpV_0]; exact vlU_ne (by omega)
end T73
