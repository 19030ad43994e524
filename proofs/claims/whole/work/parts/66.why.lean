section T66
variable {N : Int} {μ ν : Mem} {g u : Int → Int} {v W : Mem} {Q : PV → Mem → Prop} {w x s c R t n m : Int}
theorem cau_4 {x st bd du ct k : Int} (h : k = 4) : cauB x st bd du ct k = true ↔ ct < du := by
  unfold cauB
  rw [if_pos h, decide_eq_true_eq]
theorem cau_3 {x st bd du ct k : Int} (h : k = 3) : cauB x st bd du ct k = true ↔ du ≠ bd := by
  unfold cauB
  rw [if_neg (by omega), if_pos h, decide_eq_true_eq]
theorem cau_2 {x st bd du ct k : Int} (h : k = 2) : cauB x st bd du ct k = true ↔ bd ≠ st := by
  unfold cauB
  rw [if_neg (by omega), if_neg (by omega), if_pos h, decide_eq_true_eq]
theorem cau_1 {x st bd du ct k : Int} (h : k = 1) : cauB x st bd du ct k = true ↔ st ≠ x := by
  unfold cauB
  rw [if_neg (by omega), if_neg (by omega), if_neg (by omega), decide_eq_true_eq]
theorem qX5_why (hss : 0 ≤ s ∧ s < g 7) (hw : I32 w) (bG : BG g) (bV : ∀ s, 0 ≤ s → s < g 7 → BV (v s)) (s4 : RwM ν 0 g v) (hO : w < 0 → Q (0, -1000002) ν) (hq : 0 ≤ w → Q (0, whyN (cauB ((d4 g v ν).2.2 2 s) ((d4 g v ν).2.2 3 s) ((d4 g v ν).2.2 4 s) ((d4 g v ν).2.2 5 s) (cntV ((d4 g v ν).2.1 s))) 4 w) (wk ν 11 (doesX g v ν).1 (doesX g v ν).2.1 (doesX g v ν).2.2)) : MetP mX5_why [(105, 0), (0, s), (0, w)] ν Q := by
  have b7 := bG.2.2.2.2.2.2.2
  have e7 : ν 1 7 = g 7 := RwM_g s4 7 (by omega)
  unfold I32 at hw
  have pb := pl_bd (W := ν) bG bV hss
  have f2 := d5W_at (g := g) (v := v) (W := ν) (s := s) 2 (by omega)
  have f3 := d5W_at (g := g) (v := v) (W := ν) (s := s) 3 (by omega)
  have f4 := d5W_at (g := g) (v := v) (W := ν) (s := s) 4 (by omega)
  have f5 := d5W_at (g := g) (v := v) (W := ν) (s := s) 5 (by omega)
  have f7 := d5W_at (g := g) (v := v) (W := ν) (s := s) 7 (by omega)
  have f6 := d5W_6 (v := v) (W := ν) hss
  generalize (d4 g v ν).2.2 2 s = X at f2 pb hq
  generalize (d4 g v ν).2.2 3 s = ST at f3 pb hq
  generalize (d4 g v ν).2.2 4 s = BD at f4 pb hq
  generalize (d4 g v ν).2.2 5 s = DU at f5 pb hq
  generalize (d4 g v ν).2.2 7 s = PL at f7 pb
  generalize cntV ((d4 g v ν).2.1 s) = CT at f6 pb hq
  obtain ⟨p1, p2, p3, p4, p5, p6, p7⟩ := pb
  have L : 0 ≤ w → ∀ (n : Nat) (k l its : Int) (z : PV), k = (n : Int) → n ≤ 4 → (n : Int) - 4 ≤ l → l ≤ 2147483647 → ((0 ≤ l ∧ its = -1 ∧ whyN (cauB X ST BD DU CT) 4 w = whyN (cauB X ST BD DU CT) n l) ∨ (l < 0 ∧ its = whyN (cauB X ST BD DU CT) 4 w)) → OkE mX5_why 30 [(105, 0), (0, s), (0, w), (0, l), (0, its), (0, k), z] [] (wk ν 11 (doesX g v ν).1 (doesX g v ν).2.1 (doesX g v ν).2.2) Q := by
    intro hw0
    have hq := hq hw0
    generalize whyN (cauB X ST BD DU CT) 4 w = F at hq ⊢
    intro n
    induction n with
    | zero =>
      intro k l its z hk hn h1 h2 h3
      refine OkE.go snX5_why [30] 100 ?_
      refine ⟨by omega, by omega, fun _ => ?_, fun q => absurd q (by omega)⟩
      have e : its = F := by
        rcases h3 with ⟨-, e1, e2⟩ | ⟨-, e1⟩
        · rw [e1, e2]; rfl
        · exact e1
      rw [e]
      exact hq
    | succ n ih =>
      intro k l its z hk hn h1 h2 h3
      have J : ∀ bz : Int, (bz = 0 ∨ bz = 1) → (bz = 1 ↔ cauB X ST BD DU CT k = true) → OkE mX5_why 152 [(105, 0), (0, s), (0, w), (0, l), (0, its), (0, k), z] [(0, bz)] (wk ν 11 (doesX g v ν).1 (doesX g v ν).2.1 (doesX g v ν).2.2) Q := by
        intro bz hb hbb
        have ek : (n : Int) + 1 = k := by omega
        have en : whyN (cauB X ST BD DU CT) (n + 1) l = if cauB X ST BD DU CT k then (if l = 0 then k else whyN (cauB X ST BD DU CT) n (l - 1)) else whyN (cauB X ST BD DU CT) n l := by
          show (if cauB X ST BD DU CT ((n : Int) + 1) then _ else _) = _
          rw [ek]
        refine OkE.go snX5_why [30] 100 ?_
        rcases hb with rfl | rfl
        · have hf : ¬ cauB X ST BD DU CT k = true := fun h => absurd (hbb.mpr h) (by omega)
          rw [if_neg hf] at en
          refine ⟨by omega, fun _ => ?_, fun q => absurd rfl q⟩
          refine ⟨by omega, fun _ => ?_, fun q => absurd rfl q⟩
          refine ih (k + -1) (l - 0) its _ (by omega) (by omega) (by omega) (by omega) ?_
          rw [Int.sub_zero]
          rcases h3 with ⟨e0, e1, e2⟩ | ⟨e0, e1⟩
          · exact Or.inl ⟨e0, e1, e2.trans en⟩
          · exact Or.inr ⟨e0, e1⟩
        · have hf := hbb.mp rfl
          rw [if_pos hf] at en
          refine ⟨by omega, fun q => absurd q (by omega), fun _ => ?_⟩
          refine ⟨by omega, fun q => ?_, fun q => ?_⟩
          · refine ⟨by omega, fun q => absurd q (by omega), fun _ => ?_⟩
            refine ih (k + -1) (l - 1) its _ (by omega) (by omega) (by omega) (by omega) ?_
            rcases h3 with ⟨e0, e1, e2⟩ | ⟨e0, e1⟩
            · rw [if_neg q] at en
              exact Or.inl ⟨by omega, e1, e2.trans en⟩
            · exact Or.inr ⟨by omega, e1⟩
          · refine ⟨by omega, fun q => absurd q (by omega), fun _ => ?_⟩
            refine ih (k + -1) (l - 1) k _ (by omega) (by omega) (by omega) (by omega) ?_
            rcases h3 with ⟨e0, e1, e2⟩ | ⟨e0, e1⟩
            · rw [if_pos (by omega)] at en
              exact Or.inr ⟨by omega, (e2.trans en).symm⟩
            · exact absurd e0 (by omega)
      refine OkE.go snX5_why [30, 152] 100 ?_
      refine ⟨by omega, by omega, fun q => absurd q (by omega), fun _ => ?_⟩
      refine ⟨by omega, by omega, fun q2 => ?_, fun q2 => ?_⟩
      · refine ⟨by omega, by omega, fun q3 => ?_, fun q3 => ?_⟩
        · refine ⟨by omega, by omega, fun q4 => ?_, fun q4 => ?_⟩
          · refine ⟨by omega, fun x5 e5 => ?_⟩
            obtain rfl : x5 = ST := e5.trans ((rd_W (by omega)).trans f3)
            refine ⟨by omega, fun x6 e6 => ?_⟩
            obtain rfl : x6 = X := e6.trans ((rd_W (by omega)).trans f2)
            refine ⟨by omega, by omega, fun q7 => ?_, fun q7 => ?_⟩
            · exact J 0 (Or.inl rfl) (by rw [cau_1 (by omega)]; exact ⟨fun h => absurd h (by omega), fun h => absurd q7 h⟩)
            · exact J 1 (Or.inr rfl) (by rw [cau_1 (by omega)]; exact ⟨fun _ => q7, fun _ => rfl⟩)
          · refine ⟨by omega, fun x5 e5 => ?_⟩
            obtain rfl : x5 = BD := e5.trans ((rd_W (by omega)).trans f4)
            refine ⟨by omega, fun x6 e6 => ?_⟩
            obtain rfl : x6 = ST := e6.trans ((rd_W (by omega)).trans f3)
            refine ⟨by omega, by omega, fun q7 => ?_, fun q7 => ?_⟩
            · exact J 0 (Or.inl rfl) (by rw [cau_2 (by omega)]; exact ⟨fun h => absurd h (by omega), fun h => absurd q7 h⟩)
            · exact J 1 (Or.inr rfl) (by rw [cau_2 (by omega)]; exact ⟨fun _ => q7, fun _ => rfl⟩)
        · refine ⟨by omega, fun x5 e5 => ?_⟩
          obtain rfl : x5 = DU := e5.trans ((rd_W (by omega)).trans f5)
          refine ⟨by omega, fun x6 e6 => ?_⟩
          obtain rfl : x6 = BD := e6.trans ((rd_W (by omega)).trans f4)
          refine ⟨by omega, by omega, fun q7 => ?_, fun q7 => ?_⟩
          · exact J 0 (Or.inl rfl) (by rw [cau_3 (by omega)]; exact ⟨fun h => absurd h (by omega), fun h => absurd q7 h⟩)
          · exact J 1 (Or.inr rfl) (by rw [cau_3 (by omega)]; exact ⟨fun _ => q7, fun _ => rfl⟩)
      · refine ⟨by omega, fun x5 e5 => ?_⟩
        obtain rfl : x5 = PL := e5.trans ((rd_W (by omega)).trans f7)
        refine ⟨by omega, fun q7 => ?_, fun q7 => ?_⟩
        · exact J 0 (Or.inl rfl) (by rw [cau_4 (by omega)]; exact ⟨fun h => absurd h (by omega), fun h => absurd h (p7 q7)⟩)
        · refine ⟨by omega, fun x5 e5 => ?_⟩
          obtain rfl : x5 = CT := e5.trans ((rd_W (by omega)).trans f6)
          refine ⟨by omega, fun x6 e6 => ?_⟩
          obtain rfl : x6 = DU := e6.trans ((rd_W (by omega)).trans f5)
          refine ⟨by omega, by omega, fun q7 => ?_, fun q7 => ?_⟩
          · exact J 0 (Or.inl rfl) (by rw [cau_4 (by omega)]; exact ⟨fun h => absurd h (by omega), fun h => absurd h (by omega)⟩)
          · exact J 1 (Or.inr rfl) (by rw [cau_4 (by omega)]; exact ⟨fun _ => by omega, fun _ => rfl⟩)
  refine MetP.go snX5_why [30] 100 rfl rfl rfl rfl (fun _ => ?_)
  refine qX5_isService (by unfold I32; omega) (by omega) (fun q => ?_) (fun q => absurd q (by omega))
  refine ⟨by omega, fun _ => ?_, fun q => absurd q (by omega)⟩
  refine ⟨by omega, fun q => ?_, fun q => ?_⟩
  · refine qX5_triesRound s4 bG bV ?_
    exact L q 4 4 w (-1) _ (by omega) (by omega) (by omega) (by omega) (Or.inl ⟨q, rfl, rfl⟩)
  · exact hO (by omega)
theorem qX4_why (W : Mem) (hss : 0 ≤ s ∧ s < g 7) (hw : I32 w) (bG : BG g) (h6 : g 6 < 100000) (bV : ∀ s, 0 ≤ s → s < g 7 → BV (v s)) (s1 : μ 0 6 = 1) (s6 : RelH μ 3 g v) (hO : w < 0 → Q (0, -1000002) μ) (hq : 0 ≤ w → ∀ μ', FrH μ μ' 54 → Q (0, whyN (cauB ((d4 g v W).2.2 2 s) ((d4 g v W).2.2 3 s) ((d4 g v W).2.2 4 s) ((d4 g v W).2.2 5 s) (cntV ((d4 g v W).2.1 s))) 4 w) μ') : MetP mX4_why [(104, 0), (0, s), (0, w)] μ Q := by
  have b7 := bG.2.2.2.2.2.2.2
  have d7 : μ 3 2 = g 7 := s6.1.2.1
  unfold I32 at hw
  refine MetP.go snX4_why [30] 100 rfl rfl rfl rfl (fun _ => ?_)
  refine qX4_hasService (by unfold I32; omega) (Or.inr ⟨s1, by omega⟩) (fun _ q => ?_) (fun q => absurd ⟨s1, by omega⟩ q)
  refine ⟨by omega, fun _ => ?_, fun q => absurd q (by omega)⟩
  refine ⟨by omega, fun q0 => ?_, fun q => ?_⟩
  · refine qX4_afterOneRound W (by omega) bG h6 bV s6 (fun μ' k1 k2 k3 k4 => ?_)
    have hq := hq q0 μ' k4
    have pp := k3 s hss.1 hss.2
    have hc := (k2 s hss.1 hss.2).2.1.2.1
    rw [cnt_does bG bV hss] at hc
    have pb := pl_bd (W := W) bG bV hss
    generalize (d4 g v W).2.2 2 s = X at pp pb hq
    generalize (d4 g v W).2.2 3 s = ST at pp pb hq
    generalize (d4 g v W).2.2 4 s = BD at pp pb hq
    generalize (d4 g v W).2.2 5 s = DU at pp pb hq
    generalize (d4 g v W).2.2 7 s = PL at pp pb
    generalize cntV ((d4 g v W).2.1 s) = CT at hc pb hq
    obtain ⟨p1, p2, p3, p4, p5, p6, p7⟩ := pb
    have L : ∀ (n : Nat) (k l : Int), k = (n : Int) → n ≤ 4 → 0 ≤ l → l ≤ 2147483647 → Q (0, whyN (cauB X ST BD DU CT) n l) μ' → OkE mX4_why 30 [(104, 0), (0, s), (0, w), (102, 57 + 12 * s), (0, l), (0, k)] [] μ' Q := by
      intro n
      induction n with
      | zero =>
        intro k l hk hn h1 h2 h3
        refine OkE.go snX4_why [30] 100 ?_
        refine ⟨by omega, by omega, fun _ => ?_, fun q => absurd q (by omega)⟩
        exact h3
      | succ n ih =>
        intro k l hk hn h1 h2 h3
        have ek : (n : Int) + 1 = k := by omega
        have en : whyN (cauB X ST BD DU CT) (n + 1) l = if cauB X ST BD DU CT k then (if l = 0 then k else whyN (cauB X ST BD DU CT) n (l - 1)) else whyN (cauB X ST BD DU CT) n l := by
          show (if cauB X ST BD DU CT ((n : Int) + 1) then _ else _) = _
          rw [ek]
        rw [en] at h3
        refine OkE.go snX4_why [30] 100 ?_
        refine ⟨by omega, by omega, fun q => absurd q (by omega), fun _ => ?_⟩
        refine qX2_isHeldBy pp hc p1 p2 p3 p4 p6 (by omega) (fun hf => ?_) (fun hf => ?_)
        · rw [if_pos hf] at h3
          refine ⟨by omega, fun q => absurd q (by omega), fun _ => ?_⟩
          refine ⟨by omega, fun q => ?_, fun q => ?_⟩
          · rw [if_neg q] at h3
            exact ih (k + -1) (l + -1) (by omega) (by omega) (by omega) (by omega) (by rw [show l + -1 = l - 1 by omega]; exact h3)
          · rw [if_pos (by omega)] at h3
            exact h3
        · rw [if_neg hf] at h3
          refine ⟨by omega, fun _ => ?_, fun q => absurd rfl q⟩
          exact ih (k + -1) l (by omega) (by omega) (by omega) (by omega) h3
    exact L 4 4 w (by omega) (by omega) q0 (by omega) hq
  · exact hO (by omega)
theorem ag_why (hN : 0 ≤ N ∧ N < 100000) (hs : I32 s) (hw : I32 w) (h : REL N μ ν) : MetP mX5_why [(105, 0), (0, s), (0, w)] ν (fun b ν' => MetP mX4_why [(104, 0), (0, s), (0, w)] μ (fun a μ' => a = b ∧ REL N μ' ν')) := by
  obtain ⟨hT, hn, hst⟩ := id h
  rcases hst with ⟨s1, s2⟩ | ⟨s1, t, g, v, ht, s2, s3, s4, s5, s6, s7⟩
  · refine MetP.go snX5_why [] 100 rfl rfl rfl rfl (fun _ => ?_)
    refine qX5_isService hs (by omega) (fun q => absurd q (by omega)) (fun q => ?_)
    refine ⟨by omega, fun q => absurd rfl q, fun q => ?_⟩
    refine MetP.go snX4_why [] 100 rfl rfl rfl rfl (fun _ => ?_)
    refine qX4_hasService hs (Or.inl s1) (fun q => absurd q (by omega)) (fun q => ?_)
    refine ⟨by omega, fun q => absurd rfl q, fun q => ?_⟩
    exact ⟨rfl, h⟩
  · obtain ⟨bG, b6, bV⟩ := id s5
    have b7 := bG.2.2.2.2.2.2.2
    have e7 : ν 1 7 = g 7 := RwM_g s4 7 (by omega)
    have d7 : μ 3 2 = g 7 := s6.1.2.1
    by_cases hss : 0 ≤ s ∧ s < g 7
    · refine qX5_why hss hw bG bV s4 (fun no => ?_) (fun ok => ?_)
      · exact qX4_why ν hss hw bG (by omega) bV s1 s6 (fun _ => ⟨rfl, h⟩) (fun ok => absurd ok (by omega))
      · refine qX4_why ν hss hw bG (by omega) bV s1 s6 (fun no => absurd ok (by omega)) (fun _ μ' hf => ?_)
        exact ⟨rfl, h.wk11 (fun a b hn => hf a b (by omega))⟩
    · refine MetP.go snX5_why [] 100 rfl rfl rfl rfl (fun _ => ?_)
      refine qX5_isService hs (by omega) (fun q => absurd q (by omega)) (fun q => ?_)
      refine ⟨by omega, fun q => absurd rfl q, fun q => ?_⟩
      refine MetP.go snX4_why [] 100 rfl rfl rfl rfl (fun _ => ?_)
      refine qX4_hasService hs (Or.inr ⟨s1, by omega⟩) (fun _ q => absurd q (by omega)) (fun q => ?_)
      refine ⟨by omega, fun q => absurd rfl q, fun q => ?_⟩
      exact ⟨rfl, h⟩
end T66
