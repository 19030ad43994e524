/-- behind so many services -/
def PN (B : Int → Int) (n : Int) : Nat → PS
  | 0 => hdP B n 5
  | s + 1 => if s = 0 then svP B n 0 (hdP B n 5) else pnx B n (s : Int) (PN B n s)
section T82
variable {μ ν μ0 : Mem} {B : Int → Int} {Q : PV → Mem → Prop} {n p q e x c lo hi s m w j h b : Int} {S R : PS} {i k : Nat}
theorem MI_N (hR : MI s 0 R) : ∀ m : Nat, m ≤ 3 → ∃ m' : Int, (0 ≤ m' ∧ m' ≤ (m : Int)) ∧ MI s m' (pMN B n s R m) ∧ ((pMN B n s R m).1 = 0 ∧ kd (tok B n (pMN B n s R m).2.1) ≠ 0 → m' = (m : Int))
  | 0, _ => ⟨0, by omega, hR, fun _ => rfl⟩
  | m + 1, hm => by
    obtain ⟨m', h1, h2, h3⟩ := MI_N hR m (by omega)
    by_cases hc : (pMN B n s R m).1 = 0 ∧ kd (tok B n (pMN B n s R m).2.1) ≠ 0
    · have e := h3 hc
      subst e
      exact ⟨(m : Int) + 1, by omega, MI_s (by omega) h2 hc, fun _ => by omega⟩
    · have e : pMN B n s R (m + 1) = pMN B n s R m := st_Ms hc
      rw [e]
      exact ⟨m', by omega, h2, fun h => absurd h hc⟩
theorem svP_ZI (hs : 0 ≤ s) (hZ : ZI s S) : ZI (s + 1) (svP B n s S) := by
  intro hz
  have hR := MI_0 (NI_all (B := B) (n := n) (NI_B (B := B) (n := n) hs hZ) 9)
  obtain ⟨m', h1, h2, -⟩ := MI_N (B := B) (n := n) hR 3 (by omega)
  unfold svP at hz ⊢
  by_cases hc : (pMN B n s (pRd s (svN B n s (svB B n s S) 9)) 3).1 = 0 ∧ kd (tok B n (pMN B n s (pRd s (svN B n s (svB B n s S) 9)) 3).2.1) ≠ 0
  · unfold pM3 at hz
    rw [if_pos hc] at hz
    exact absurd hz (by show ¬ (3 : Int) = 0; omega)
  · rw [st_M3 hc] at hz ⊢
    exact MI_end hs (by omega) h2 hz
/-- what a service leaves as it was -/
def KP (s : Int) (S T : PS) : Prop := T.1 = 0 → S.1 = 0 ∧ (∀ j, j ≠ 7 → T.2.2.1 j = S.2.2.1 j) ∧ ∀ s' w, s' ≠ s → T.2.2.2 s' w = S.2.2.2 s' w
theorem KP.tr {T U : PS} (h1 : KP s S T) (h2 : KP s T U) : KP s S U := by
  intro hz
  obtain ⟨a1, a2, a3⟩ := h2 hz
  obtain ⟨b1, b2, b3⟩ := h1 a1
  exact ⟨b1, fun j hj => (a2 j hj).trans (b2 j hj), fun s' w hs => (a3 s' w hs).trans (b3 s' w hs)⟩
theorem KP_B : KP s S (svB B n s S) := by
  intro hz
  unfold svB at hz ⊢
  by_cases h1 : (pSg B n 115 S).1 = 0
  · rw [if_pos h1]
    exact ⟨(iv_sg h1).1, fun j hj => upg_ne hj, fun _ _ _ => rfl⟩
  · rw [if_neg h1] at hz; exact absurd hz h1
theorem KP_N : ∀ i : Nat, KP s S (svN B n s S i)
  | 0 => fun hz => ⟨hz, fun _ _ => rfl, fun _ _ _ => rfl⟩
  | i + 1 => by
    intro hz
    obtain ⟨z1, z2, z3⟩ := iv_sg hz
    obtain ⟨y1, y2⟩ := iv_nx z1
    obtain ⟨u1, u2, u3, u4⟩ := iv_X y1
    obtain ⟨x1, x2⟩ := iv_V u1
    obtain ⟨w1, w2, w3, w4⟩ := iv_ck x1
    obtain ⟨b1, b2, b3⟩ := KP_N i w1
    have e : (svN B n s S (i + 1)).2.2 = ((svN B n s S i).2.2.1, upm (svN B n s S i).2.2.2 s (i : Int) (num B n (svN B n s S i).2.1)) := by
      show (pSg B n _ _).2.2 = _
      rw [z3, y2, u4, x2, w4]
    rw [e]
    exact ⟨b1, b2, fun s' w hs => (upm_ne (by omega)).trans (b3 s' w hs)⟩
theorem KP_R : KP s S (pRd s S) := by
  intro hz
  unfold pRd at hz ⊢
  by_cases hs : S.1 = 0
  · rw [if_pos hs]; exact ⟨hs, fun _ _ => rfl, fun s' w hs => upm_ne (by omega)⟩
  · rw [if_neg hs] at hz; exact absurd hz hs
theorem KP_M : KP s S (pMs B n s m S) := by
  intro hz
  unfold pMs at hz ⊢
  by_cases hk : S.1 = 0 ∧ kd (tok B n S.2.1) ≠ 0
  · rw [if_pos hk] at hz ⊢
    obtain ⟨z1, z2, z3⟩ := iv_sg hz
    obtain ⟨y1, y2⟩ := iv_nx z1
    obtain ⟨x1, x2⟩ := iv_V y1
    obtain ⟨w1, w2, w3, w4⟩ := iv_ck x1
    rw [z3, y2, x2, w4]
    exact ⟨hk.1, fun _ _ => rfl, fun s' w hs => (upm_ne (by omega)).trans ((upm_ne (by omega)).trans ((upm_ne (by omega)).trans (upm_ne (by omega))))⟩
  · rw [if_neg hk] at hz ⊢; exact ⟨hz, fun _ _ => rfl, fun _ _ _ => rfl⟩
theorem KP_MN : ∀ m : Nat, KP s R (pMN B n s R m)
  | 0 => fun hz => ⟨hz, fun _ _ => rfl, fun _ _ _ => rfl⟩
  | m + 1 => (KP_MN m).tr KP_M
theorem KP_3 : KP s S (pM3 B n S) := by
  intro hz
  unfold pM3 at hz ⊢
  by_cases hk : S.1 = 0 ∧ kd (tok B n S.2.1) ≠ 0
  · rw [if_pos hk] at hz; exact absurd hz (by show ¬ (3 : Int) = 0; omega)
  · rw [if_neg hk] at hz ⊢; exact ⟨hz, fun _ _ => rfl, fun _ _ _ => rfl⟩
theorem qX3_readMeasures (h0 : CT B n μ0) (hs : 0 ≤ s ∧ s < 4) (hb1 : R.1 = 0) (hM : MI s 0 R) (hS : CR B n μ0 μ 0 R.2.1)
    (hg : ∀ μ', (pM3 B n (pMN B n s R 3)).1 = 0 → CR B n μ0 μ' 0 (pM3 B n (pMN B n s R 3)).2.1 → μ' (54 + 2 + 1 + 12 * s) 2 = (pM3 B n (pMN B n s R 3)).2.2.2 s 9 → (∀ m, 0 ≤ m → m < (pM3 B n (pMN B n s R 3)).2.2.2 s 9 → μ' (54 + 2 + 1 + 12 * s + 2 + 1 + 2 * m) 0 = (pM3 B n (pMN B n s R 3)).2.2.2 s (35 + 21 * m) ∧ μ' (54 + 2 + 1 + 12 * s + 2 + 1 + 2 * m) 1 = (pM3 B n (pMN B n s R 3)).2.2.2 s (36 + 21 * m)) → (∀ j, 0 ≤ j → j < 9 → (pM3 B n (pMN B n s R 3)).2.2.2 s j = R.2.2.2 s j) → (∀ c i, ¬ (c = 1 ∧ 2 ≤ i ∧ i ≤ 6) → ¬ (c = 54 + 2 + 1 + 12 * s ∨ (54 + 2 + 1 + 12 * s + 3 ≤ c ∧ c < 54 + 2 + 1 + 12 * s + 9)) → μ' c i = μ c i) → Q (0, 1) μ') (hb : ∀ μ', (pM3 B n (pMN B n s R 3)).1 ≠ 0 → CR B n μ0 μ' (pM3 B n (pMN B n s R 3)).1 (pM3 B n (pMN B n s R 3)).2.1 → Q (0, 0) μ') : MetP mX3_readMeasures [(103, 1), (102, 54 + 2 + 1 + 12 * s)] μ Q := by
  have stop : ∀ (m : Nat), m ≤ 3 → ¬ ((pMN B n s R m).1 = 0 ∧ kd (tok B n (pMN B n s R m).2.1) ≠ 0) → pM3 B n (pMN B n s R 3) = pMN B n s R m := by
    intro m hm hn
    have e := st_MN hn (3 - m)
    rw [show m + (3 - m) = 3 by omega] at e
    rw [e, st_M3 hn]
  have L : ∀ (d m : Nat) (k : Int) (z3 : PV) (μ' : Mem), k = (m : Int) → m + d = 3 → (pMN B n s R m).1 = 0 → CR B n μ0 μ' 0 (pMN B n s R m).2.1 → MI s (m : Int) (pMN B n s R m) → μ' (54 + 2 + 1 + 12 * s) 2 = k → (∀ m', 0 ≤ m' → m' < k → μ' (54 + 2 + 1 + 12 * s + 2 + 1 + 2 * m') 0 = (pMN B n s R m).2.2.2 s (35 + 21 * m') ∧ μ' (54 + 2 + 1 + 12 * s + 2 + 1 + 2 * m') 1 = (pMN B n s R m).2.2.2 s (36 + 21 * m')) → (∀ j, 0 ≤ j → j < 9 → (pMN B n s R m).2.2.2 s j = R.2.2.2 s j) → (∀ c i, ¬ (c = 1 ∧ 2 ≤ i ∧ i ≤ 6) → ¬ (c = 54 + 2 + 1 + 12 * s ∨ (54 + 2 + 1 + 12 * s + 3 ≤ c ∧ c < 54 + 2 + 1 + 12 * s + 9)) → μ' c i = μ c i) → OkE mX3_readMeasures 7 [(103, 1), (102, 54 + 2 + 1 + 12 * s), (0, k), z3] [] μ' Q := by
    intro d
    induction d with
    | zero =>
      intro m k z3 μ' hk hm hz hc hI hcnt hkt hR hf
      obtain rfl : m = 3 := by omega
      have m9 := (hI hz).2.2.2.2.2.2.1
      have tb := tok_bd h0.1 (pMN B n s R 3).2.1
      have kb := kd_bd (tok B n (pMN B n s R 3).2.1)
      refine OkE.go snX3_readMeasures [7] 100 ?_
      refine ⟨by omega, by omega, fun _ => ?_, fun q => absurd q (by omega)⟩
      intro x1 e1
      obtain rfl := e1.trans hc.fld.2.2.1
      refine qC_kindOf (by omega) ?_
      by_cases hk0 : kd (tok B n (pMN B n s R 3).2.1) = 0
      · rw [if_pos hk0]
        refine ⟨by omega, by omega, fun _ => ?_, fun q => absurd rfl q⟩
        have e := stop 3 (by omega) (fun h => h.2 hk0)
        rw [e] at hg
        exact ⟨by omega, hg μ' hz hc (hcnt.trans (by rw [m9]; exact hk)) (fun m' p q => hkt m' p (by omega)) hR hf⟩
      · rw [if_neg hk0]
        refine ⟨by omega, by omega, fun q => absurd q (by omega), fun _ => ?_⟩
        refine qC_fails hc (fun μ2 k2 f2 => ?_)
        refine ⟨by omega, fun _ => ?_, fun q => absurd rfl q⟩
        have e : pM3 B n (pMN B n s R 3) = (3, (pMN B n s R 3).2) := by unfold pM3; rw [if_pos ⟨hz, hk0⟩]
        rw [e] at hb
        exact ⟨by omega, hb μ2 (by show (3 : Int) ≠ 0; omega) k2⟩
    | succ d ih =>
      intro m k z3 μ' hk hm hz hc hI hcnt hkt hR hf
      have tb := tok_bd h0.1 (pMN B n s R m).2.1
      have kb := kd_bd (tok B n (pMN B n s R m).2.1)
      have m9 := (hI hz).2.2.2.2.2.2.1
      refine OkE.go snX3_readMeasures [7] 100 ?_
      refine ⟨by omega, by omega, fun q => absurd q (by omega), fun _ => ?_⟩
      intro x1 e1
      obtain rfl := e1.trans hc.fld.2.2.1
      refine qC_kindOf (by omega) ?_
      by_cases hk0 : kd (tok B n (pMN B n s R m).2.1) = 0
      · rw [if_pos hk0]
        refine ⟨by omega, by omega, fun q => absurd rfl q, fun _ => ?_⟩
        have e := stop m (by omega) (fun h => h.2 hk0)
        rw [e] at hg
        exact ⟨by omega, hg μ' hz hc (hcnt.trans (by rw [m9]; exact hk)) (fun m' p q => hkt m' p (by omega)) hR hf⟩
      · rw [if_neg hk0]
        have st : pMN B n s R (m + 1) = pSg B n 59 (pNx (pV B n s (35 + 21 * (m : Int) + 1) (pCk B n 1 99 (pM0 B n s (m : Int) (pMN B n s R m))))) := by
          show pMs B n s (m : Int) (pMN B n s R m) = _
          unfold pMs
          rw [if_pos ⟨hz, hk0⟩]
        have badE : ∀ (T : PS) (μ2 : Mem), pMN B n s R (m + 1) = T → T.1 ≠ 0 → CR B n μ0 μ2 T.1 T.2.1 → Q (0, 0) μ2 := by
          intro T μ2 eT hne k2
          have e := stop (m + 1) (by omega) (by rw [eT]; exact fun h => hne h.1)
          rw [eT] at e
          rw [e] at hb
          exact hb μ2 hne k2
        have hI1 := MI_s (B := B) (n := n) (m := (m : Int)) (by omega) hI ⟨hz, hk0⟩
        refine ⟨by omega, by omega, fun _ => ?_, fun q => absurd q (by omega)⟩
        refine qC_step h0 hc (fun μ2 c2 f2 => ?_)
        have z0 : (pM0 B n s (m : Int) (pMN B n s R m)).1 = 0 := rfl
        refine qC_isNumber h0 (by omega) (by omega) c2 (fun ht hnb => ?_) (fun ht hnb μ3 k3 f3 => ?_) (fun ht μ3 k3 f3 => ?_)
        · refine ⟨by omega, fun _ => ?_, fun q => absurd q (by omega)⟩
          refine ⟨by omega, ?_⟩
          intro μ3 d3
          have d3' : μ3 = upm μ2 (54 + 2 + 1 + 12 * s + 2 + 1 + 2 * k) 0 (kd (tok B n (pMN B n s R m).2.1)) := d3
          have n3 : ∀ a b, ¬ (a = 54 + 2 + 1 + 12 * s + 2 + 1 + 2 * k ∧ b = 0) → μ3 a b = μ2 a b := fun a b hn => by rw [d3']; exact upm_ne hn
          have w3 : μ3 (54 + 2 + 1 + 12 * s + 2 + 1 + 2 * k) 0 = kd (tok B n (pMN B n s R m).2.1) := by rw [d3']; exact upm_at _ _ _ _
          refine ⟨by omega, ?_⟩
          intro x4 e4
          obtain rfl : x4 = num B n ((pMN B n s R m).2.1 + 1) := e4.trans ((n3 1 5 (by omega)).trans (c2.fld.2.2.2 ht))
          intro μ5 d5
          have d5' : μ5 = upm μ3 (54 + 2 + 1 + 12 * s + 2 + 1 + 2 * k) 1 (num B n ((pMN B n s R m).2.1 + 1)) := d5
          have n5 : ∀ a b, ¬ (a = 54 + 2 + 1 + 12 * s + 2 + 1 + 2 * k ∧ b = 1) → μ5 a b = μ3 a b := fun a b hn => by rw [d5']; exact upm_ne hn
          have w5 : μ5 (54 + 2 + 1 + 12 * s + 2 + 1 + 2 * k) 1 = num B n ((pMN B n s R m).2.1 + 1) := by rw [d5']; exact upm_at _ _ _ _
          have c5 : CR B n μ0 μ5 0 ((pMN B n s R m).2.1 + 1) := c2.mem (fun c i hn => by rw [n5 c i (by omega), n3 c i (by omega)])
          refine qC_step h0 c5 (fun μ6 c6 f6 => ?_)
          have eN : pNx (pV B n s (35 + 21 * (m : Int) + 1) (pCk B n 1 99 (pM0 B n s (m : Int) (pMN B n s R m)))) = (0, (pMN B n s R m).2.1 + 1 + 1, (pMN B n s R m).2.2.1, upm (upm (upm (upm (pMN B n s R m).2.2.2 s 9 ((m : Int) + 1)) s (35 + 21 * (m : Int) + 0) (kd (tok B n (pMN B n s R m).2.1))) s (35 + 21 * (m : Int) + 2) (-1)) s (35 + 21 * (m : Int) + 1) (num B n ((pMN B n s R m).2.1 + 1))) := by
            rw [ck_yes z0 ht hnb]
            unfold pV
            rw [if_pos z0]
            unfold pNx
            rw [if_pos rfl]
            rfl
          rw [eN] at st
          refine qC_passes h0 (by omega) c6 (fun ht2 μ7 c7 f7 => ?_) (fun ht2 μ7 c7 f7 => ?_)
          · refine ⟨by omega, fun _ => ?_, fun q => absurd q (by omega)⟩
            rw [sg_yes (S := (0, (pMN B n s R m).2.1 + 1 + 1, (pMN B n s R m).2.2.1, upm (upm (upm (upm (pMN B n s R m).2.2.2 s 9 ((m : Int) + 1)) s (35 + 21 * (m : Int) + 0) (kd (tok B n (pMN B n s R m).2.1))) s (35 + 21 * (m : Int) + 2) (-1)) s (35 + 21 * (m : Int) + 1) (num B n ((pMN B n s R m).2.1 + 1)))) rfl ht2] at st
            intro μ8 d8
            have d8' : μ8 = upm μ7 (54 + 2 + 1 + 12 * s) 2 (k + 1) := d8
            have n8 : ∀ a b, ¬ (a = 54 + 2 + 1 + 12 * s ∧ b = 2) → μ8 a b = μ7 a b := fun a b hn => by rw [d8']; exact upm_ne hn
            have w8 : μ8 (54 + 2 + 1 + 12 * s) 2 = k + 1 := by rw [d8']; exact upm_at _ _ _ _
            have N8 : ∀ a b, ¬ (a = 1 ∧ 2 ≤ b ∧ b ≤ 6) → ¬ (a = 54 + 2 + 1 + 12 * s ∧ b = 2) → ¬ (a = 54 + 2 + 1 + 12 * s + 2 + 1 + 2 * k ∧ (b = 0 ∨ b = 1)) → μ8 a b = μ' a b := fun a b p1 p2 p3 => by
              rw [n8 a b p2, f7 a b p1, f6 a b p1, n5 a b (by omega), n3 a b (by omega), f2 a b p1]
            have K : ∀ w, ¬ (w = 9 ∨ w = 35 + 21 * (m : Int) + 0 ∨ w = 35 + 21 * (m : Int) + 2 ∨ w = 35 + 21 * (m : Int) + 1) → (pMN B n s R (m + 1)).2.2.2 s w = (pMN B n s R m).2.2.2 s w := fun w hn => by
              rw [st]
              dsimp only
              rw [upm_ne (by omega), upm_ne (by omega), upm_ne (by omega), upm_ne (by omega)]
            refine ih (m + 1) (k + 1) _ μ8 (by omega) (by omega) (by rw [st]) ?_ ?_ w8 (fun m' p q => ?_) (fun j p q => ?_) (fun c i p q => ?_)
            · rw [st]
              exact c7.mem (fun c i hn => n8 c i (by omega))
            · have e1 : pMN B n s R (m + 1) = pMs B n s (m : Int) (pMN B n s R m) := rfl
              rw [show ((m + 1 : Nat) : Int) = (m : Int) + 1 by omega, e1]
              exact hI1
            · by_cases hmm : m' = k
              · subst hmm
                refine ⟨?_, ?_⟩
                · rw [n8 _ _ (by omega), f7 _ _ (by omega), f6 _ _ (by omega), n5 _ _ (by omega), w3, st]
                  dsimp only
                  rw [upm_ne (by omega), upm_ne (by omega), show (35 : Int) + 21 * m' = 35 + 21 * (m : Int) + 0 by omega, upm_at]
                · rw [n8 _ _ (by omega), f7 _ _ (by omega), f6 _ _ (by omega), w5, st]
                  dsimp only
                  rw [show (36 : Int) + 21 * m' = 35 + 21 * (m : Int) + 1 by omega, upm_at]
              · obtain ⟨o1, o2⟩ := hkt m' p (by omega)
                refine ⟨?_, ?_⟩
                · rw [N8 _ _ (by omega) (by omega) (by omega), K _ (by omega)]; exact o1
                · rw [N8 _ _ (by omega) (by omega) (by omega), K _ (by omega)]; exact o2
            · rw [K j (by omega)]; exact hR j p q
            · rw [N8 c i p (by omega) (by omega)]; exact hf c i p q
          · refine ⟨by omega, fun q => absurd rfl q, fun _ => ?_⟩
            rw [sg_no (S := (0, (pMN B n s R m).2.1 + 1 + 1, (pMN B n s R m).2.2.1, upm (upm (upm (upm (pMN B n s R m).2.2.2 s 9 ((m : Int) + 1)) s (35 + 21 * (m : Int) + 0) (kd (tok B n (pMN B n s R m).2.1))) s (35 + 21 * (m : Int) + 2) (-1)) s (35 + 21 * (m : Int) + 1) (num B n ((pMN B n s R m).2.1 + 1)))) rfl ht2] at st
            exact ⟨by omega, badE _ μ7 st (by show (1 : Int) ≠ 0; omega) c7⟩
        · refine ⟨by omega, fun q => absurd rfl q, fun _ => ?_⟩
          have ne : ((2 : Int), (pM0 B n s (m : Int) (pMN B n s R m)).2).1 ≠ 0 := by show (2 : Int) ≠ 0; omega
          rw [ck_2 z0 ht hnb, bd_V ne, bd_nx ne, bd_sg ne] at st
          exact ⟨by omega, badE _ μ3 st ne k3⟩
        · refine ⟨by omega, fun q => absurd rfl q, fun _ => ?_⟩
          have ne : ((1 : Int), (pM0 B n s (m : Int) (pMN B n s R m)).2).1 ≠ 0 := by show (1 : Int) ≠ 0; omega
          rw [ck_1 z0 ht, bd_V ne, bd_nx ne, bd_sg ne] at st
          exact ⟨by omega, badE _ μ3 st ne k3⟩
  refine MetP.go snX3_readMeasures [7] 100 rfl rfl rfl rfl (fun _ => ?_)
  intro μ1 d1
  have d1' : μ1 = upm μ (54 + 2 + 1 + 12 * s) 2 0 := d1
  have n1 : ∀ a b, ¬ (a = 54 + 2 + 1 + 12 * s ∧ b = 2) → μ1 a b = μ a b := fun a b hn => by rw [d1']; exact upm_ne hn
  exact L 3 0 0 _ μ1 (by omega) (by omega) hb1 (hS.mem (fun c i hn => n1 c i (by omega))) hM (by rw [d1']; exact upm_at _ _ _ _) (fun m' p q => absurd q (by omega)) (fun _ _ _ => rfl) (fun c i p q => n1 c i (by omega))
end T82
