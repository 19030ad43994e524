section T83
variable {N : Int} {μ ν μ0 : Mem} {B : Int → Int} {Q : PV → Mem → Prop} {n p q e x c lo hi s m w j h b : Int} {S R : PS} {i k : Nat}
theorem PN_s (hi : i ≠ 0) : PN B n (i + 1) = pnx B n (i : Int) (PN B n i) := by
  show (if i = 0 then _ else _) = _
  rw [if_neg hi]
theorem PN_go (h : (PN B n i).1 = 0) (ht : i = 0 ∨ tok B n (PN B n i).2.1 ≠ -1) : PN B n (i + 1) = svP B n (i : Int) (PN B n i) := by
  by_cases hi : i = 0
  · subst hi
    show (if (0 : Nat) = 0 then _ else _) = _
    rw [if_pos rfl]; rfl
  · rw [PN_s hi]
    unfold pnx
    rw [if_pos ⟨h, ht.resolve_left hi⟩]
theorem PN_stop (hi : i ≠ 0) (h : ¬ ((PN B n i).1 = 0 ∧ tok B n (PN B n i).2.1 ≠ -1)) : ∀ d : Nat, PN B n (i + d) = PN B n i
  | 0 => rfl
  | d + 1 => by
    have ih := PN_stop hi h d
    show PN B n (i + d + 1) = _
    rw [PN_s (by omega), ih, st_nx h]
theorem P5_eq : P5 B n = pfi B n (PN B n 4) := by
  have e1 : PN B n 1 = P1 B n := by
    show (if (0 : Nat) = 0 then svP B n 0 (hdP B n 5) else _) = _
    rw [if_pos rfl]
    rfl
  have e2 : PN B n 2 = P2 B n := by
    have e := PN_s (B := B) (n := n) (i := 1) (by omega)
    rw [e1] at e
    exact e
  have e3 : PN B n 3 = P3 B n := by
    have e := PN_s (B := B) (n := n) (i := 2) (by omega)
    rw [e2] at e
    exact e
  have e4 : PN B n 4 = P4 B n := by
    have e := PN_s (B := B) (n := n) (i := 3) (by omega)
    rw [e3] at e
    exact e
  rw [e4]
  rfl
theorem P5_stop (hi : i ≠ 0) (hi4 : i ≤ 4) (h : ¬ ((PN B n i).1 = 0 ∧ tok B n (PN B n i).2.1 ≠ -1)) : P5 B n = PN B n i := by
  have e := PN_stop hi h (4 - i)
  rw [show i + (4 - i) = 4 by omega] at e
  rw [P5_eq, e, st_fi h]
theorem PN_bad0 (h : (PN B n 0).1 ≠ 0) : PN B n 1 = PN B n 0 := by
  show (if (0 : Nat) = 0 then svP B n 0 (hdP B n 5) else _) = hdP B n 5
  rw [if_pos rfl]
  have h' : (hdP B n 5).1 ≠ 0 := h
  have e : svB B n 0 (hdP B n 5) = hdP B n 5 := by
    unfold svB
    rw [bd_sg h', if_neg h']
  rw [bd_svP_B (by rw [e]; exact h'), e]
theorem ZN : ∀ i : Nat, (i = 0 → ZI 0 (PN B n 0)) ∧ ((PN B n i).1 = 0 → i ≠ 0 → ∃ c : Int, (1 ≤ c ∧ c ≤ (i : Int)) ∧ ZI c (PN B n i) ∧ (tok B n (PN B n i).2.1 ≠ -1 → c = (i : Int)))
  | 0 => ⟨fun _ => ZI_hd, fun _ h => absurd rfl h⟩
  | i + 1 => by
    refine ⟨fun h => absurd h (by omega), fun hz _ => ?_⟩
    obtain ⟨h1, h2⟩ := ZN i
    by_cases hi : i = 0
    · subst hi
      have e : PN B n (0 + 1) = svP B n 0 (hdP B n 5) := by
        show (if (0 : Nat) = 0 then _ else _) = _
        rw [if_pos rfl]
      rw [e]
      exact ⟨0 + 1, by omega, svP_ZI (by omega) ZI_hd, fun _ => by omega⟩
    · rw [PN_s hi] at hz ⊢
      by_cases hc : (PN B n i).1 = 0 ∧ tok B n (PN B n i).2.1 ≠ -1
      · obtain ⟨c, c1, c2, c3⟩ := h2 hc.1 hi
        have ec := c3 hc.2
        subst ec
        have e : pnx B n (i : Int) (PN B n i) = svP B n (i : Int) (PN B n i) := by unfold pnx; rw [if_pos hc]
        rw [e]
        exact ⟨(i : Int) + 1, by omega, svP_ZI (by omega) c2, fun _ => by omega⟩
      · rw [st_nx hc] at hz ⊢
        obtain ⟨c, c1, c2, c3⟩ := h2 hz hi
        exact ⟨c, by omega, c2, fun ht => absurd ⟨hz, ht⟩ hc⟩
/-- a good reading -/
theorem P5_ok (h : (P5 B n).1 = 0) : ∃ c : Int, (1 ≤ c ∧ c ≤ 4) ∧ ZI c (P5 B n) := by
  rw [P5_eq] at h ⊢
  by_cases hc : (PN B n 4).1 = 0 ∧ tok B n (PN B n 4).2.1 ≠ -1
  · unfold pfi at h
    rw [if_pos hc] at h
    exact absurd h (by show ¬ (if tok B n (PN B n 4).2.1 = 115 then (3 : Int) else 1) = 0; split <;> omega)
  · rw [st_fi hc] at h ⊢
    obtain ⟨c, c1, c2, -⟩ := (ZN (B := B) (n := n) 4).2 h (by omega)
    exact ⟨c, by omega, c2⟩
theorem qX3_readServices (h0 : CT B n μ0) (hz0 : (PN B n 0).1 = 0) (hS : CR B n μ0 μ 0 (PN B n 0).2.1) (h2 : μ 54 2 = 0) (h5 : ∀ j, 0 ≤ j → j < 5 → μ 55 j = (PN B n 0).2.2.1 j)
    (hg : ∀ μ', (P5 B n).1 = 0 → CR B n μ0 μ' 0 (P5 B n).2.1 → μ' 54 2 = (P5 B n).2.2.1 7 → (∀ s, 0 ≤ s → s < (P5 B n).2.2.1 7 → SHP μ' (54 + 2 + 1 + 12 * s) ((P5 B n).2.2.2 s)) → (∀ j, 0 ≤ j → j < 5 → μ' 55 j = (P5 B n).2.2.1 j) → Q (0, 1) μ') (hb : ∀ μ', (P5 B n).1 ≠ 0 → CR B n μ0 μ' (P5 B n).1 (P5 B n).2.1 → Q (0, 0) μ') : MetP mX3_readServices [(103, 1), (100, 54)] μ Q := by
  have bad : ∀ (i : Nat) (T : PS) (μ' : Mem), i ≠ 0 → i ≤ 4 → PN B n i = T → T.1 ≠ 0 → CR B n μ0 μ' T.1 T.2.1 → Q (0, 0) μ' := by
    intro i T μ' h1 h2 eT hne k
    have e := P5_stop (B := B) (n := n) h1 h2 (by rw [eT]; exact fun h => hne h.1)
    rw [eT] at e
    rw [e] at hb
    exact hb μ' hne k
  have L : ∀ (d i : Nat) (k : Int) (μ' : Mem), k = (i : Int) → i + d = 4 → (PN B n i).1 = 0 → CR B n μ0 μ' 0 (PN B n i).2.1 → ZI (i : Int) (PN B n i) → μ' 54 2 = k → (∀ s, 0 ≤ s → s < k → SHP μ' (54 + 2 + 1 + 12 * s) ((PN B n i).2.2.2 s)) → (∀ j, 0 ≤ j → j < 5 → μ' 55 j = (PN B n i).2.2.1 j) → OkE mX3_readServices 2 [(103, 1), (100, 54), (0, k)] [] μ' Q := by
    intro d
    induction d with
    | zero =>
      intro i k μ' hk hi hz hc hZ hcnt hsh hh
      have hi4 : i = 4 := by omega
      have tb := tok_bd h0.1 (PN B n i).2.1
      have z7 := (hZ hz).2.1
      refine OkE.go snX3_readServices [2, 95] 100 ?_
      refine ⟨by omega, by omega, fun _ => ?_, fun q => absurd q (by omega)⟩
      intro x1 e1
      obtain rfl := e1.trans hc.fld.2.2.1
      refine ⟨by omega, by omega, fun q => ?_, fun q => ?_⟩
      · have e := P5_stop (B := B) (n := n) (i := i) (by omega) (by omega) (fun h => h.2 q)
        rw [e] at hg
        exact ⟨by omega, hg μ' hz hc (by rw [z7]; omega) (fun s p q => hsh s p (by omega)) hh⟩
      · have J95 : ∀ x, x = (if tok B n (PN B n i).2.1 = 115 then 3 else 1) → OkE mX3_readServices 95 [(103, 1), (100, 54), (0, k)] [(0, x), (103, 1)] μ' Q := by
          intro x hx
          refine OkE.go snX3_readServices [] 100 ?_
          refine qC_fails hc (fun μ2 k2 f2 => ?_)
          refine ⟨by omega, fun _ => ?_, fun q => absurd rfl q⟩
          have e : P5 B n = (x, (PN B n i).2) := by
            rw [P5_eq, ← hi4]
            unfold pfi
            rw [if_pos ⟨hz, q⟩, hx]
          rw [e] at hb
          exact ⟨by omega, hb μ2 (by show x ≠ 0; rw [hx]; split <;> omega) k2⟩
        intro x2 e2
        obtain rfl := e2.trans hc.fld.2.2.1
        refine ⟨by omega, by omega, fun q2 => ?_, fun q2 => ?_⟩
        · exact J95 1 (by rw [if_neg q2])
        · exact J95 3 (by rw [if_pos (by omega)])
    | succ d ih =>
      intro i k μ' hk hi hz hc hZ hcnt hsh hh
      have tb := tok_bd h0.1 (PN B n i).2.1
      obtain ⟨zz1, z7, z3, z4⟩ := hZ hz
      have C : (i = 0 ∨ tok B n (PN B n i).2.1 ≠ -1) → OkE mX3_readServices 21 [(103, 1), (100, 54), (0, k)] [] μ' Q := by
        intro ht
        have eP := PN_go hz ht
        have nB := NI_B (B := B) (n := n) (by omega) hZ
        refine OkE.go snX3_readServices [2] 100 ?_
        refine qC_passes h0 (by omega) hc (fun ht2 μ2 c2 f2 => ?_) (fun ht2 μ2 c2 f2 => ?_)
        · refine ⟨by omega, fun q => absurd q (by omega), fun _ => ?_⟩
          have eB : svB B n (i : Int) (PN B n i) = (0, (PN B n i).2.1 + 1, upg (PN B n i).2.2.1 7 ((i : Int) + 1), (PN B n i).2.2.2) := by
            unfold svB
            rw [sg_yes hz ht2, if_pos rfl]
          refine ⟨by omega, ?_⟩
          rw [hk]
          refine qX3_readNumbers (s := (i : Int)) (S := svB B n (i : Int) (PN B n i)) h0 (by omega) (by rw [eB]) nB (by rw [eB]; exact c2) ?_ (fun s' p q => ?_) ?_ (fun μ3 g1 g2 g3 g4 => ?_) (fun μ3 g1 g2 => ?_)
          · rw [f2 _ _ (by omega)]; exact hcnt.trans hk
          · rw [eB, f2 _ _ (by omega)]
            exact (hsh s' p (by omega)).1 0 (by omega) (by omega)
          · rw [eB, f2 _ _ (by omega)]
            dsimp only
            rw [upg_ne (by omega)]
            exact hh 0 (by omega) (by omega)
          · refine ⟨by omega, fun q => absurd q (by omega), fun _ => ?_⟩
            have nA := NI_all (B := B) (n := n) nB 9
            have eR : (pRd (i : Int) (svN B n (i : Int) (svB B n (i : Int) (PN B n i)) 9)).1 = 0 ∧ (pRd (i : Int) (svN B n (i : Int) (svB B n (i : Int) (PN B n i)) 9)).2.1 = (svN B n (i : Int) (svB B n (i : Int) (PN B n i)) 9).2.1 ∧ ∀ j, j < 10 → (pRd (i : Int) (svN B n (i : Int) (svB B n (i : Int) (PN B n i)) 9)).2.2.2 (i : Int) j = (svN B n (i : Int) (svB B n (i : Int) (PN B n i)) 9).2.2.2 (i : Int) j := by
              unfold pRd
              rw [if_pos g1]
              exact ⟨rfl, rfl, fun j hj => upm_ne (by omega)⟩
            refine ⟨by omega, ?_⟩
            refine qX3_readMeasures (s := (i : Int)) (R := pRd (i : Int) (svN B n (i : Int) (svB B n (i : Int) (PN B n i)) 9)) h0 (by omega) eR.1 (MI_0 nA) (by rw [eR.2.1]; exact g2) (fun μ4 j1 j2 j3 j4 j5 j6 => ?_) (fun μ4 j1 j2 => ?_)
            · refine ⟨by omega, fun _ => ?_, fun q => absurd q (by omega)⟩
              have eE : pM3 B n (pMN B n (i : Int) (pRd (i : Int) (svN B n (i : Int) (svB B n (i : Int) (PN B n i)) 9)) 3) = PN B n (i + 1) := eP.symm
              have kp : KP (i : Int) (PN B n i) (PN B n (i + 1)) := by
                rw [eP]
                exact ((((KP_B).tr (KP_N 9)).tr KP_R).tr (KP_MN 3)).tr KP_3
              rw [eE] at j1 j2 j3 j4 j5
              obtain ⟨-, kp2, kp3⟩ := kp j1
              intro μ5 d5
              have d5' : μ5 = upm μ4 54 2 ((i : Int) + 1) := d5
              have n5 : ∀ a b, ¬ (a = 54 ∧ b = 2) → μ5 a b = μ4 a b := fun a b hn => by rw [d5']; exact upm_ne hn
              have w5 : μ5 54 2 = (i : Int) + 1 := by rw [d5']; exact upm_at _ _ _ _
              have ZZ : ZI ((i + 1 : Nat) : Int) (PN B n (i + 1)) := by
                rw [eP, show ((i + 1 : Nat) : Int) = (i : Int) + 1 by omega]
                exact svP_ZI (by omega) hZ
              have F : ∀ a b, ¬ (a = 1 ∧ 2 ≤ b ∧ b ≤ 6) → ¬ (54 + 2 + 1 + 12 * (i : Int) ≤ a ∧ a < 54 + 2 + 1 + 12 * (i : Int) + 12) → ¬ (a = 54 ∧ b = 2) → μ5 a b = μ' a b := fun a b p1 p2 p3 => by
                rw [n5 a b p3, j6 a b p1 (by omega), g4 a b p1 (by omega), f2 a b p1]
              refine ih (i + 1) ((i : Int) + 1) μ5 (by omega) (by omega) j1 (j2.mem (fun c i hn => n5 c i (by omega))) ZZ w5 (fun s' p q => ?_) (fun j p q => ?_)
              · by_cases hs : s' = (i : Int)
                · subst hs
                  refine ⟨fun j p q => ?_, ?_, fun m p q => ?_⟩
                  · rw [n5 _ _ (by omega), j6 _ _ (by omega) (by omega), g3 j p q, j5 j p q, eR.2.2 j (by omega)]
                  · rw [n5 _ _ (by omega)]; exact j3
                  · have b3 := BV_9 ((ZZ j1).2.2.1 (i : Int) (by omega) (by omega)).1
                    rw [n5 _ _ (by omega), n5 _ _ (by omega)]; exact j4 m p q
                · have e1 : (PN B n (i + 1)).2.2.2 s' = (PN B n i).2.2.2 s' := by funext w; exact kp3 s' w hs
                  rw [e1]
                  exact (hsh s' p (by omega)).frame (BV_9 (z3 s' p (by omega)).1).2 (fun a b p1 p2 => F a b (by omega) (by omega) (by omega))
              · rw [F _ _ (by omega) (by omega) (by omega), kp2 j (by omega)]; exact hh j p q
            · refine ⟨by omega, fun q => absurd rfl q, fun _ => ?_⟩
              have eE : PN B n (i + 1) = pM3 B n (pMN B n (i : Int) (pRd (i : Int) (svN B n (i : Int) (svB B n (i : Int) (PN B n i)) 9)) 3) := eP
              exact ⟨by omega, bad (i + 1) _ μ4 (by omega) (by omega) eE j1 j2⟩
          · refine ⟨by omega, fun _ => ?_, fun q => absurd rfl q⟩
            rw [bd_svP_N g1] at eP
            exact ⟨by omega, bad (i + 1) _ μ3 (by omega) (by omega) eP g1 g2⟩
        · refine ⟨by omega, fun _ => ?_, fun q => absurd rfl q⟩
          have eB : svB B n (i : Int) (PN B n i) = (1, (PN B n i).2) := by
            unfold svB
            rw [sg_no hz ht2, if_neg (by show ¬ (1 : Int) = 0; omega)]
          have ne : (svB B n (i : Int) (PN B n i)).1 ≠ 0 := by rw [eB]; show (1 : Int) ≠ 0; omega
          rw [bd_svP_B ne, eB] at eP
          exact ⟨by omega, bad (i + 1) _ μ2 (by omega) (by omega) eP (by show (1 : Int) ≠ 0; omega) c2⟩
      refine OkE.go snX3_readServices [2, 21] 100 ?_
      refine ⟨by omega, by omega, fun q => absurd q (by omega), fun _ => ?_⟩
      refine ⟨by omega, fun q => C (Or.inl (by omega)), fun q => ?_⟩
      intro x1 e1
      obtain rfl := e1.trans hc.fld.2.2.1
      refine ⟨by omega, by omega, fun q2 => C (Or.inr q2), fun q2 => ?_⟩
      have e := P5_stop (B := B) (n := n) (i := i) (by omega) (by omega) (fun h => h.2 (by omega))
      rw [e] at hg
      exact ⟨by omega, hg μ' hz hc (by rw [z7]; omega) (fun s p q => hsh s p (by omega)) hh⟩
  refine MetP.go snX3_readServices [2] 100 rfl rfl rfl rfl (fun _ => ?_)
  exact L 4 0 0 μ (by omega) (by omega) hz0 hS ZI_hd h2 (fun s p q => absurd q (by omega)) h5
theorem qX3_readInto (h0 : CT B n μ) (hg : ∀ μ', (P5 B n).1 = 0 → CR B n μ μ' 0 (P5 B n).2.1 → μ' 54 2 = (P5 B n).2.2.1 7 → (∀ s, 0 ≤ s → s < (P5 B n).2.2.1 7 → SHP μ' (54 + 2 + 1 + 12 * s) ((P5 B n).2.2.2 s)) → (∀ j, 0 ≤ j → j < 5 → μ' 55 j = (P5 B n).2.2.1 j) → Q (0, 1) μ') (hb : ∀ μ', (P5 B n).1 ≠ 0 → CR B n μ μ' (P5 B n).1 (P5 B n).2.1 → Q (0, 0) μ') : MetP mX3_readInto [(103, 1), (100, 54)] μ Q := by
  refine MetP.go snX3_readInto [] 100 rfl rfl rfl rfl (fun _ => ?_)
  intro μ1 d1
  have n1 : ∀ a b, ¬ (a = 1 ∧ b = 2) → μ1 a b = μ a b := fun a b hn => by rw [d1]; exact upm_ne hn
  have w1 : μ1 1 2 = 0 := by rw [d1]; exact upm_at _ _ _ _
  intro μ2 d2
  have n2 : ∀ a b, ¬ (a = 1 ∧ b = 6) → μ2 a b = μ1 a b := fun a b hn => by rw [d2]; exact upm_ne hn
  have w2 : μ2 1 6 = 0 := by rw [d2]; exact upm_at _ _ _ _
  intro μ3 d3
  have n3 : ∀ a b, ¬ (a = 54 ∧ b = 2) → μ3 a b = μ2 a b := fun a b hn => by rw [d3]; exact upm_ne hn
  have w3 : μ3 54 2 = 0 := by rw [d3]; exact upm_at _ _ _ _
  have N3 : ∀ a b, ¬ (a = 1 ∧ (b = 2 ∨ b = 6)) → ¬ (a = 54 ∧ b = 2) → μ3 a b = μ a b := fun a b p q => by rw [n3 a b q, n2 a b (by omega), n1 a b (by omega)]
  refine qX3_step (p := 0) h0.1 ((N3 1 1 (by omega) (by omega)).trans h0.2.1) (fun i p q => (N3 2 i (by omega) (by omega)).trans (h0.2.2 i p q)) ⟨by omega, h0.1.1.1⟩ ?_ (fun μ4 t4 f4 => ?_)
  · rw [n3 _ _ (by omega), n2 _ _ (by omega)]; exact w1
  have c4 : CR B n μ μ4 0 0 := ⟨by rw [f4 1 6 (by omega), n3 _ _ (by omega)]; exact w2, t4, fun c i p q => by rw [f4 c i (by omega)]; exact N3 c i (by omega) (by omega)⟩
  refine qX3_readHouse h0 c4 (fun μ5 g1 g2 g3 g4 => ?_) (fun μ5 g1 g2 => ?_)
  · refine ⟨by omega, fun q => absurd q (by omega), fun _ => ?_⟩
    refine qX3_readServices h0 g1 g2 ?_ g3 (fun μ6 j1 j2 j3 j4 j5 => ?_) (fun μ6 j1 j2 => ?_)
    · rw [g4 _ _ (by omega) (by omega), f4 _ _ (by omega)]; exact w3
    · refine ⟨by omega, fun q => absurd q (by omega), fun _ => ?_⟩
      exact ⟨by omega, hg μ6 j1 j2 j3 j4 j5⟩
    · refine ⟨by omega, fun _ => ?_, fun q => absurd rfl q⟩
      exact ⟨by omega, hb μ6 j1 j2⟩
  · refine ⟨by omega, fun _ => ?_, fun q => absurd rfl q⟩
    have e1 : PN B n 1 = PN B n 0 := PN_bad0 g1
    have e := P5_stop (B := B) (n := n) (i := 1) (by omega) (by omega) (by rw [e1]; exact fun h => g1 h.1)
    rw [e1] at e
    rw [e] at hb
    exact ⟨by omega, hb μ5 g1 g2⟩
end T83
