/-- the class's reading: fault and token -/
def CR (B : Int → Int) (n : Int) (μ0 μ : Mem) (b : Int) (k : Nat) : Prop := μ 1 6 = b ∧ tkC B n μ (psN B n k) ∧ ∀ c i, ¬ (c = 1 ∧ 2 ≤ i ∧ i ≤ 6) → ¬ (54 ≤ c ∧ c < 105) → μ c i = μ0 c i
def CT (B : Int → Int) (n : Int) (μ : Mem) : Prop := TX B n ∧ μ 1 1 = n ∧ ∀ i, 0 ≤ i → i < n → μ 2 i = B i
def F1 (μ μ' : Mem) : Prop := ∀ c i, ¬ (c = 1 ∧ 2 ≤ i ∧ i ≤ 6) → μ' c i = μ c i
section T80
variable {μ ν μ0 : Mem} {B : Int → Int} {Q : PV → Mem → Prop} {n p q e x c lo hi s m w j h b : Int} {S : PS} {i k : Nat}
theorem CR.txt (h : CR B n μ0 μ b k) (h0 : CT B n μ0) : CT B n μ := by
  obtain ⟨-, -, f⟩ := h
  exact ⟨h0.1, (f 1 1 (by omega) (by omega)).trans h0.2.1, fun i p q => (f 2 i (by omega) (by omega)).trans (h0.2.2 i p q)⟩
theorem CR.fld (h : CR B n μ0 μ b k) : μ 1 2 = psN B n (k + 1) ∧ μ 1 3 = beg B n k ∧ μ 1 4 = tok B n k ∧ (tok B n k = -2 → μ 1 5 = num B n k) := h.2.1
theorem CR.mem {μ' : Mem} (h : CR B n μ0 μ b k) (hf : ∀ c i, ¬ (54 ≤ c ∧ c < 105) → μ' c i = μ c i) : CR B n μ0 μ' b k := by
  obtain ⟨a1, ⟨t1, t2, t3, t4⟩, a3⟩ := h
  refine ⟨(hf 1 6 (by omega)).trans a1, ⟨(hf 1 2 (by omega)).trans t1, (hf 1 3 (by omega)).trans t2, (hf 1 4 (by omega)).trans t3, fun h => (hf 1 5 (by omega)).trans (t4 h)⟩, fun c i p q => (hf c i q).trans (a3 c i p q)⟩
theorem num_bd (hT : TX B n) (h : tok B n k = -2) : 0 ≤ num B n k ∧ num B n k ≤ 100 := by
  have hf := tok_fig hT h
  unfold num nmO
  split <;> omega
theorem qC_step (h0 : CT B n μ0) (hS : CR B n μ0 μ b k) (hq : ∀ μ', CR B n μ0 μ' b (k + 1) → F1 μ μ' → Q (9, 0) μ') : MetP mX3_step [(103, 1)] μ Q := by
  have ht := hS.txt h0
  obtain ⟨a1, a2, a3⟩ := id hS
  refine qX3_step ht.1 ht.2.1 ht.2.2 (psN_bd ht.1 (k + 1)) a2.1 (fun μ' k1 k2 => hq μ' ⟨?_, k1, fun c i p q => ?_⟩ (fun c i p => k2 c i (by omega)))
  · rw [k2 1 6 (by omega)]; exact a1
  · rw [k2 c i (by omega)]; exact a3 c i p q
theorem qC_fails (hS : CR B n μ0 μ b k) (hq : ∀ μ', CR B n μ0 μ' x k → F1 μ μ' → Q (0, 0) μ') : MetP mX3_fails [(103, 1), (0, x)] μ Q := by
  obtain ⟨a1, ⟨t1, t2, t3, t4⟩, a3⟩ := id hS
  refine MetP.go snX3_fails [] 100 rfl rfl rfl rfl (fun _ => ?_)
  intro μ2 d2
  have n2 : ∀ a b, ¬ (a = 1 ∧ b = 6) → μ2 a b = μ a b := fun a b hn => by rw [d2]; exact upm_ne hn
  refine ⟨by omega, hq μ2 ⟨by rw [d2]; exact upm_at _ _ _ _, ⟨(n2 1 2 (by omega)).trans t1, (n2 1 3 (by omega)).trans t2, (n2 1 4 (by omega)).trans t3, fun h => (n2 1 5 (by omega)).trans (t4 h)⟩, fun c i p q => (n2 c i (by omega)).trans (a3 c i p q)⟩ (fun c i p => n2 c i (by omega))⟩
theorem qC_passes (h0 : CT B n μ0) (hc : 0 ≤ c ∧ c ≤ 255) (hS : CR B n μ0 μ b k) (h1 : tok B n k = c → ∀ μ', CR B n μ0 μ' b (k + 1) → F1 μ μ' → Q (0, 1) μ') (hz : tok B n k ≠ c → ∀ μ', CR B n μ0 μ' 1 k → F1 μ μ' → Q (0, 0) μ') : MetP mX3_passes [(103, 1), (0, c)] μ Q := by
  have tb := tok_bd h0.1 k
  refine MetP.go snX3_passes [] 100 rfl rfl rfl rfl (fun _ => ?_)
  intro x1 e1
  obtain rfl : x1 = tok B n k := e1.trans hS.fld.2.2.1
  refine ⟨by omega, by omega, fun q => ?_, fun q => ?_⟩
  · refine qC_step h0 hS (fun μ' k1 k2 => ?_)
    exact ⟨by omega, h1 q μ' k1 k2⟩
  · refine qC_fails hS (fun μ' k1 k2 => ?_)
    exact ⟨by omega, hz q μ' k1 k2⟩
theorem qC_isNumber (h0 : CT B n μ0) (hl : 0 ≤ lo ∧ lo ≤ 100) (hh : 0 ≤ hi ∧ hi ≤ 100) (hS : CR B n μ0 μ b k) (h1 : tok B n k = -2 → lo ≤ num B n k ∧ num B n k ≤ hi → Q (0, 1) μ) (h2 : tok B n k = -2 → ¬ (lo ≤ num B n k ∧ num B n k ≤ hi) → ∀ μ', CR B n μ0 μ' 2 k → F1 μ μ' → Q (0, 0) μ') (hz : tok B n k ≠ -2 → ∀ μ', CR B n μ0 μ' 1 k → F1 μ μ' → Q (0, 0) μ') : MetP mX3_isNumber [(103, 1), (0, lo), (0, hi)] μ Q := by
  have tb := tok_bd h0.1 k
  refine MetP.go snX3_isNumber [] 100 rfl rfl rfl rfl (fun _ => ?_)
  intro x1 e1
  obtain rfl : x1 = tok B n k := e1.trans hS.fld.2.2.1
  refine ⟨by omega, by omega, fun q => ?_, fun q => ?_⟩
  · have nb := num_bd h0.1 q
    have en := hS.fld.2.2.2 q
    intro x2 e2
    obtain rfl : x2 = num B n k := e2.trans en
    refine ⟨by omega, by omega, fun q2 => ?_, fun q2 => ?_⟩
    · refine qC_fails hS (fun μ' k1 k2 => ?_)
      exact ⟨by omega, h2 q (by omega) μ' k1 k2⟩
    · intro x3 e3
      obtain rfl : x3 = num B n k := e3.trans en
      refine ⟨by omega, by omega, fun q3 => ?_, fun q3 => ?_⟩
      · exact ⟨by omega, h1 q (by omega)⟩
      · refine qC_fails hS (fun μ' k1 k2 => ?_)
        exact ⟨by omega, h2 q (by omega) μ' k1 k2⟩
  · refine qC_fails hS (fun μ' k1 k2 => ?_)
    exact ⟨by omega, hz q μ' k1 k2⟩
theorem qC_kindOf (hc : -2 ≤ c ∧ c ≤ 255) (hq : Q (0, if kd c = 0 then -1 else kd c) μ) : MetP mX3_kindOf [(0, c)] μ Q := by
  refine MetP.go snX3_kindOf [] 100 rfl rfl rfl rfl (fun _ => ?_)
  refine ⟨by omega, ?_⟩
  refine And.intro (fun q => ?_) (fun n1 => And.intro (fun q => ?_) (fun n2 => And.intro (fun q => ?_) (fun n3 => And.intro (fun q => ?_) (fun n4 => ?_))))
  · have e : kd c = 3 := by unfold kd; rw [if_neg (by omega), if_neg (by omega), if_pos (by omega)]
    rw [e, if_neg (by omega)] at hq; exact hq
  · have e : kd c = 2 := by unfold kd; rw [if_neg (by omega), if_pos (by omega)]
    rw [e, if_neg (by omega)] at hq; exact hq
  · have e : kd c = 4 := by unfold kd; rw [if_neg (by omega), if_neg (by omega), if_neg (by omega), if_pos (by omega)]
    rw [e, if_neg (by omega)] at hq; exact hq
  · have e : kd c = 1 := by unfold kd; rw [if_pos (by omega)]
    rw [e, if_neg (by omega)] at hq; exact hq
  · have e : kd c = 0 := by unfold kd; rw [if_neg (by omega), if_neg (by omega), if_neg (by omega), if_neg (by omega)]
    rw [e, if_pos rfl] at hq; exact hq
/-- the pure steps, run by the class -/
theorem sg_yes (hb : S.1 = 0) (h : tok B n S.2.1 = c) : pSg B n c S = (0, S.2.1 + 1, S.2.2) := by unfold pSg; rw [if_pos hb, if_pos h]
theorem sg_no (hb : S.1 = 0) (h : tok B n S.2.1 ≠ c) : pSg B n c S = (1, S.2) := by unfold pSg; rw [if_pos hb, if_neg h]
theorem ck_yes (hb : S.1 = 0) (h : tok B n S.2.1 = -2) (h2 : lo ≤ num B n S.2.1 ∧ num B n S.2.1 ≤ hi) : pCk B n lo hi S = S := by unfold pCk; rw [if_pos hb, if_pos h, if_pos h2]
theorem ck_2 (hb : S.1 = 0) (h : tok B n S.2.1 = -2) (h2 : ¬ (lo ≤ num B n S.2.1 ∧ num B n S.2.1 ≤ hi)) : pCk B n lo hi S = (2, S.2) := by unfold pCk; rw [if_pos hb, if_pos h, if_neg h2]
theorem ck_1 (hb : S.1 = 0) (h : tok B n S.2.1 ≠ -2) : pCk B n lo hi S = (1, S.2) := by unfold pCk; rw [if_pos hb, if_neg h]
theorem qX3_readHouse (h0 : CT B n μ0) (hS : CR B n μ0 μ 0 0) (hg : ∀ μ', (hdP B n 5).1 = 0 → CR B n μ0 μ' 0 (hdP B n 5).2.1 → (∀ j, 0 ≤ j → j < 5 → μ' 55 j = (hdP B n 5).2.2.1 j) → (∀ c i, ¬ (c = 1 ∧ 2 ≤ i ∧ i ≤ 6) → c ≠ 55 → μ' c i = μ c i) → Q (0, 1) μ') (hb : ∀ μ', (hdP B n 5).1 ≠ 0 → CR B n μ0 μ' (hdP B n 5).1 (hdP B n 5).2.1 → Q (0, 0) μ') : MetP mX3_readHouse [(103, 1), (100, 54)] μ Q := by
  have bad : ∀ (i : Nat) (μ' : Mem), i ≤ 5 → (hdP B n i).1 ≠ 0 → CR B n μ0 μ' (hdP B n i).1 (hdP B n i).2.1 → Q (0, 0) μ' := by
    intro i μ' hi hne k
    have e := bd_hdN hne (5 - i)
    rw [show i + (5 - i) = 5 by omega] at e
    exact hb μ' (by rw [e]; exact hne) (by rw [e]; exact k)
  have L : ∀ (d i : Nat) (k : Int) (μ' : Mem), k = (i : Int) → i + d = 5 → (hdP B n i).1 = 0 → CR B n μ0 μ' 0 (hdP B n i).2.1 → (∀ j, 0 ≤ j → j < k → μ' 55 j = (hdP B n i).2.2.1 j) → (∀ c i, ¬ (c = 1 ∧ 2 ≤ i ∧ i ≤ 6) → c ≠ 55 → μ' c i = μ c i) → OkE mX3_readHouse 13 [(103, 1), (100, 54), (0, k)] [] μ' Q := by
    intro d
    induction d with
    | zero =>
      intro i k μ' hk hi hz hc hn hf
      refine OkE.go snX3_readHouse [13] 100 ?_
      refine ⟨by omega, by omega, fun _ => ?_, fun q => absurd q (by omega)⟩
      rw [show i = 5 by omega] at hz hc hn
      exact ⟨by omega, hg μ' hz hc (fun j p q => hn j p (by omega)) hf⟩
    | succ d ih =>
      intro i k μ' hk hi hz hc hn hf
      have sb := stG_bd (j := k) (by omega)
      have st : hdP B n (i + 1) = pSg B n (if i = 4 then 59 else 44) (pNx (pG B n (i : Int) (pCk B n (stV 0 (i : Int)) (stV 1 (i : Int)) (hdP B n i)))) := rfl
      refine OkE.go snX3_readHouse [13, 64] 100 ?_
      refine ⟨by omega, by omega, fun q => absurd q (by omega), fun _ => ?_⟩
      refine ⟨rfl, by omega, fun x1 e1 => ?_⟩
      refine ⟨rfl, by omega, fun x2 e2 => ?_⟩
      rw [e1, e2]
      refine qC_isNumber h0 (by omega) (by omega) hc (fun ht hnb => ?_) (fun ht hnb μ2 k2 f2 => ?_) (fun ht μ2 k2 f2 => ?_)
      · refine ⟨by omega, fun _ => ?_, fun q => absurd q (by omega)⟩
        have nb := num_bd h0.1 ht
        intro x3 e3
        obtain rfl : x3 = num B n (hdP B n i).2.1 := e3.trans (hc.fld.2.2.2 ht)
        refine ⟨by omega, fun μ2 d2 => ?_⟩
        have d2' : μ2 = upm μ' 55 k (num B n (hdP B n i).2.1) := d2
        have n2 : ∀ a b, ¬ (a = 55 ∧ b = k) → μ2 a b = μ' a b := fun a b hn => by rw [d2']; exact upm_ne hn
        have v2 : μ2 55 k = num B n (hdP B n i).2.1 := by rw [d2']; exact upm_at _ _ _ _
        have c2 : CR B n μ0 μ2 0 (hdP B n i).2.1 := hc.mem (fun c i hn => n2 c i (by omega))
        refine qC_step h0 c2 (fun μ3 c3 f3 => ?_)
        rw [hk] at hnb
        have eG : pNx (pG B n (i : Int) (pCk B n (stV 0 (i : Int)) (stV 1 (i : Int)) (hdP B n i))) = (0, (hdP B n i).2.1 + 1, upg (hdP B n i).2.2.1 (i : Int) (num B n (hdP B n i).2.1), (hdP B n i).2.2.2) := by
          rw [ck_yes hz ht hnb]
          unfold pG
          rw [if_pos hz]
          unfold pNx
          rw [if_pos rfl]
        rw [eG] at st
        have J64 : ∀ c, c = (if i = 4 then 59 else 44) → OkE mX3_readHouse 64 [(103, 1), (100, 54), (0, k)] [(0, c), (103, 1)] μ3 Q := by
          intro c hc0
          rw [← hc0] at st
          refine OkE.go snX3_readHouse [13] 100 ?_
          refine qC_passes h0 (by rw [hc0]; split <;> omega) c3 (fun ht μ4 c4 f4 => ?_) (fun ht μ4 c4 f4 => ?_)
          · refine ⟨by omega, fun _ => ?_, fun q => absurd q (by omega)⟩
            rw [sg_yes (S := (0, (hdP B n i).2.1 + 1, upg (hdP B n i).2.2.1 (i : Int) (num B n (hdP B n i).2.1), (hdP B n i).2.2.2)) rfl ht] at st
            refine ih (i + 1) (k + 1) μ4 (by omega) (by omega) (by rw [st]) (by rw [st]; exact c4) (fun j p q => ?_) (fun c i p q => ?_)
            · rw [st, f4 _ _ (by omega), f3 _ _ (by omega)]
              dsimp only
              by_cases hj : j = k
              · subst hj; rw [v2, hk, upg_at]
              · rw [n2 _ _ (by omega), upg_ne (by omega)]; exact hn j p (by omega)
            · rw [f4 c i p, f3 c i p, n2 c i (by omega)]; exact hf c i p q
          · refine ⟨by omega, fun q => absurd rfl q, fun _ => ?_⟩
            rw [sg_no (S := (0, (hdP B n i).2.1 + 1, upg (hdP B n i).2.2.1 (i : Int) (num B n (hdP B n i).2.1), (hdP B n i).2.2.2)) rfl ht] at st
            refine ⟨by omega, bad (i + 1) μ4 (by omega) (by rw [st]; show (1 : Int) ≠ 0; omega) (by rw [st]; exact c4)⟩
        refine ⟨by omega, by omega, fun q => ?_, fun q => ?_⟩
        · exact J64 44 (by rw [if_neg (by omega)])
        · exact J64 59 (by rw [if_pos (by omega)])
      · refine ⟨by omega, fun q => absurd rfl q, fun _ => ?_⟩
        rw [hk] at hnb
        have ne : ((2 : Int), (hdP B n i).2).1 ≠ 0 := by show (2 : Int) ≠ 0; omega
        rw [ck_2 hz ht hnb, bd_G ne, bd_nx ne, bd_sg ne] at st
        exact ⟨by omega, bad (i + 1) μ2 (by omega) (by rw [st]; exact ne) (by rw [st]; exact k2)⟩
      · refine ⟨by omega, fun q => absurd rfl q, fun _ => ?_⟩
        have ne : ((1 : Int), (hdP B n i).2).1 ≠ 0 := by show (1 : Int) ≠ 0; omega
        rw [ck_1 hz ht, bd_G ne, bd_nx ne, bd_sg ne] at st
        exact ⟨by omega, bad (i + 1) μ2 (by omega) (by rw [st]; exact ne) (by rw [st]; exact k2)⟩
  have st : hdP B n 0 = pSg B n 104 (0, 0, fun _ => 0, fun _ _ => 0) := rfl
  refine MetP.go snX3_readHouse [13] 100 rfl rfl rfl rfl (fun _ => ?_)
  refine qC_passes h0 (by omega) hS (fun ht μ2 k2 f2 => ?_) (fun ht μ2 k2 f2 => ?_)
  · refine ⟨by omega, fun _ => ?_, fun q => absurd q (by omega)⟩
    rw [sg_yes (S := (0, 0, fun _ => 0, fun _ _ => 0)) rfl ht] at st
    exact L 5 0 0 μ2 (by omega) (by omega) (by rw [st]) (by rw [st]; exact k2) (fun j p q => absurd q (by omega)) (fun c i p _ => f2 c i p)
  · refine ⟨by omega, fun q => absurd rfl q, fun _ => ?_⟩
    rw [sg_no (S := (0, 0, fun _ => 0, fun _ _ => 0)) rfl ht] at st
    exact ⟨by omega, bad 0 μ2 (by omega) (by rw [st]; show (1 : Int) ≠ 0; omega) (by rw [st]; exact k2)⟩
end T80
