/-! CALLS, RETURNS, ENTRY -/
def argsK : Nat → List PV → List PV → (List PV → List PV → Prop) → Prop
  | 0, acc, st, k => k acc st
  | n + 1, acc, v :: st, k => argsK n (v :: acc) st k
  | _ + 1, _, [], _ => False
theorem argsK_elim : ∀ {n : Nat} {acc st : List PV} {k : List PV → List PV → Prop}, argsK n acc st k → ∃ as r, as.length = n ∧ st = as.reverse ++ r ∧ k (as ++ acc) r
  | 0, acc, st, k, h => ⟨[], st, rfl, rfl, h⟩
  | n + 1, acc, [], k, h => h.elim
  | n + 1, acc, v :: st, k, h => by
    obtain ⟨as, r, h1, h2, h3⟩ := argsK_elim (n := n) (acc := v :: acc) (st := st) h
    refine ⟨as ++ [v], r, by simp [h1], by simp [h2], ?_⟩
    rw [List.append_assoc]
    exact h3
def iCI (t : Nat) (M' : MD) (na n : Nat) : PI := fun _ ls st μ K => argsK na [] st fun as r => s1 r fun u r => pT t u fun c => w8 r (MetP M' ((t, c) :: as) μ (fun x μ' => K n ls (x :: r) μ'))
def iCV (t : Nat) (M' : MD) (na n : Nat) : PI := fun _ ls st μ K => argsK na [] st fun as r => s1 r fun u r => pT t u fun c => w8 r (MetP M' ((t, c) :: as) μ (fun _ μ' => K n ls r μ'))
def iCS (M' : MD) (na n : Nat) : PI := fun _ ls st μ K => argsK na [] st fun as r => w8 r (MetP M' as μ (fun x μ' => K n ls (x :: r) μ'))
def iCSV (M' : MD) (na n : Nat) : PI := fun _ ls st μ K => argsK na [] st fun as r => w8 r (MetP M' as μ (fun _ μ' => K n ls r μ'))
def iRI : PI := fun Q _ st μ _ => s1 st fun v r => pI v fun z => match r with
  | [] => Q (0, z) μ
  | _ :: _ => False
def iRZ : PI := fun Q _ st μ _ => s1 st fun v r => pI v fun z => match r with
  | [] => (z = 0 ∨ z = 1) ∧ Q (0, z) μ
  | _ :: _ => False
def iRV : PI := fun Q _ st μ _ => match st with
  | [] => Q (9, 0) μ
  | _ :: _ => False
def iRA : PI := fun Q _ st μ _ => s1 st fun v r => pR v (match r with
  | [] => Q v μ
  | _ :: _ => False)
theorem AA.mono {w : Nat} {ad : Nat → Nat} {a b : Nat} (h : a ≤ b) : ∀ q, AA w ad b q → AA w ad a q := fun q hq => hq.elim Or.inl (fun h2 => Or.inr (Nat.le_trans h h2))
theorem call_go {p : Program} {l : Launch} {e : Env} {R : Room} {s : State} {m : MethodId} {args : Array Value} {below : List Frame} {meth : Method} {c : Code} {H : Heap} {locs : List Loc} {Q : State → Prop} {pc : Nat} {ls : Array Slot} {rest st0 : List Value} {a : Array Value} {w : Nat} {ad sv : Nat → Nat} {D : va_G} {cT : Nat → ClassId} {rt : Option FieldType} {P : PV → Mem → Prop}
    (hr : va_Run p l e R s m args below meth c H locs 0 0 0 0 (F0 m pc ls st0) rest (PostW w ad sv D cT H.size rt P a) (AA w ad H.size)) (hS : va_S (AA w ad s.heap.size) s.heap H locs)
    (kk : ∀ (r : PV) (μ' : Mem) (H1 : Heap) (locs1 : List Loc), TOK rt r → VOK w r → P r μ' → va_P D vwCl (wsW w ad cT μ') H1 → va_S (AA w ad s.heap.size) s.heap H1 locs1 → W p l e R s m args below meth c H1 locs1 0 0 Q (F0 m (pc + 3) ls ((rv ad sv r).toList ++ rest))) : W p l e R s m args below meth c H locs 0 0 Q (F0 m pc ls st0) := by
  intro T hT X
  obtain ⟨v, st₀, t, T', L, h0, X', hL, e1, e2, ⟨⟨r, μ', hv, htk, hvk, hp, hb⟩, hz, hk⟩, st⟩ := hr T hT X
  cases hv
  rw [h0] at hz hk
  have hmono := AA.mono (w := w) (ad := ad) hS.1
  obtain ⟨t2, a1, b1⟩ := kk r μ' T'.heap (locs ++ L) htk hvk hp (by rw [e1]; exact hb)
    ⟨Nat.le_trans hS.1 (by rw [e1]; exact hz), fun q h1 h2 => by rw [e1, hk q (Nat.lt_of_lt_of_le h1 hS.1) (fun z => h2 (hmono q z))]; exact hS.2.1 q h1 h2, fun q hq => by
      rcases List.mem_append.mp hq with h | h
      · exact hS.2.2 q h
      · exact hmono _ (hL q h)⟩ T' rfl X'
  exact ⟨t2, st t2 a1, b1⟩
theorem PreW.blind {w : Nat} {ad sv : Nat → Nat} {D : va_G} {cT : Nat → ClassId} {sz : Nat} {as : List PV} {μ : Mem} : FrameBlind (PreW w ad sv D cT sz as μ) := by
  intro a U g mk q
  obtain ⟨q0, q1, qP, qK, qD, qN, qS⟩ := q
  exact ⟨q0, q1, qP, va_K.moved (u := U) (U := U.calling g mk a) (Vm.Alike.refl U.vm) qK, qD, NW.same (u := U) rfl qN, Stt.moved (u := U) (U := U.calling g mk a) (Vm.Alike.refl U.vm) qS⟩
theorem PreW.at {M : MD} {ad sv : Nat → Nat} {D : va_G} {cT : Nat → ClassId} {p : Program} {s : State} {m : MethodId} {args : Array Value} {meth : Method} {c : Code} {H : Heap} {locs : List Loc} {as : List PV} {μ : Mem} (C : Cx M ad sv D cT p s m args meth c) (hP : va_P D vwCl (wsW M.1 ad cT μ) H) (hS : va_S (AA M.1 ad s.heap.size) s.heap H locs) : ∀ U : State, U.heap = H → s.WarmedH U.vm → PreW M.1 ad sv D cT H.size as μ (as.map (cv ad sv)).toArray U := by
  obtain ⟨hx, hb, hml, hr, hlk, hown, hts, hnw, hK0, hAD, hst⟩ := C
  intro U hU hW
  refine ⟨rfl, by rw [hU], by rw [hU]; exact hP, va_K.moved hW.alike hK0, ⟨hAD.1, fun _ _ => trivial⟩, hnw.warm hW, ?_⟩
  rw [hU]
  exact Stt.moved hW.alike ((hst.kept (fun a h1 h2 => hS.2.1 a h1 h2)).narrow (AA.mono hS.1))
/-- a method's link: its own, or a nest mate's -/
def ML (own : String) (index : Nat) (y : MethodName) : Prop := Cond.methodLink own index y ∈ gW ∨ ∃ host, Cond.methodLinkNest own index y host ∈ nWs
/-- what a call needs to know of the callee -/
def MK (M' : MD) (na : Nat) : Prop := mCode M' ∈ gW ∧ Cond.initialized M'.2.2.1.cls ∈ gW ∧ (M'.2.2.1.cls ≠ "java/lang/invoke/MethodHandle" ∧ M'.2.2.1.cls ≠ "java/lang/invoke/VarHandle" ∧ (parseMethodDescriptor M'.2.2.1.desc).map (fun d => d.parameters.length) = some na) ∧ M'.2.2.2.2.1 ≤ 21
theorem good_gW {M M' : MD} (h : mCode M' ∈ gW) : GoodIn (mCode M :: gW) (mCode M' :: gW) := by
  intro q hq
  have hq2 : q ∈ gW := by
    rcases List.mem_cons.mp hq with rfl | h2
    · exact h
    · exact h2
  exact ⟨List.mem_cons_of_mem _ hq2, good_of_word (gW_good q hq2)⟩
theorem VOKs.app {w : Nat} {as r : List PV} (h : ∀ u ∈ as.reverse ++ r, VOK w u) : (∀ u ∈ as, VOK w u) ∧ ∀ u ∈ r, VOK w u := ⟨fun u hu => h u (List.mem_append_left _ (List.mem_reverse.mpr hu)), fun u hu => h u (List.mem_append_right _ hu)⟩
theorem lv_room2 {m : MethodId} {pc : Nat} {la : Array Slot} {st : List Value} {ad sv : Nat → Nat} {r : List PV} (h : wsum r ≤ 8) : 2 * (F0 m pc la st).monitorRoom + ((r.map (cv ad sv)).map fun v => v.category).sum ≤ 8 := lv_room (by rw [wsum_cat]; exact h)
theorem TOK_rv {ad sv : Nat → Nat} {r : PV} {t : FieldType} (h : TOK (some t) r) : rv ad sv r = some (cv ad sv r) := by
  unfold rv
  rw [if_neg]
  intro h9
  cases t <;> simp [TOK] at h <;> omega
theorem TOK_rn {ad sv : Nat → Nat} {r : PV} (h : TOK none r) : rv ad sv r = none := by
  unfold rv
  rw [if_pos (show r.1 = 9 from h)]
theorem s_callI {M M' : MD} {pc n t na index N : Nat} {T : u_T} {ty0 : Nat → FieldType} (ci : Nat) (hC : CLS ci M'.2.2.1.cls T N ty0) (ht : t = 100 + ci) (hw : M'.1 = M.1) (hlv : M'.2.1 + 1 ≤ M.2.1) (hk : MK M' na) (hrt : ∃ ty, M'.2.2.2.2.2 = some ty) (hi : Cond.instanceMethod M'.2.2.1 ∈ gW) (hse : Cond.selects M'.2.2.1.cls M'.2.2.1 M'.2.2.1 ∈ gW) (hl : ML M.2.2.1.cls index M'.2.2.1) (hd : decode M.2.2.2.1 pc = .ok (.invokevirtual index, 3)) (hn : n = pc + 3) : Sound M pc (iCI t M' na n) := by
  subst ht
  subst hn
  intro Q ls st μ K hK h
  obtain ⟨as, r0, hlen, rfl, h1⟩ := argsK_elim h
  obtain ⟨u, r, rfl, h2⟩ := s1_elim h1
  obtain ⟨c0, rfl, h3⟩ := pT_elim h2
  obtain ⟨hw8, h4⟩ := w8_elim h3
  rw [List.append_nil] at h4
  intro l ad sv D cT p e s m args below meth c C H locs la hP hS hL hV hT
  obtain ⟨hx, hb, hml, hr, hlk, hown, hts, hnw, hK0, hAD, hst⟩ := id C
  obtain ⟨hva, hvr0⟩ := VOKs.app hT
  have hvc := VOKs.head hvr0
  have hvr := VOKs.tail hvr0
  have kk : ∀ (x : PV) (μ' : Mem) (H1 : Heap) (locs1 : List Loc), TOK M'.2.2.2.2.2 x → VOK M.1 x → K (pc + 3) ls (x :: r) μ' → va_P D vwCl (wsW M.1 ad cT μ') H1 → va_S (AA M.1 ad s.heap.size) s.heap H1 locs1 → W p l e (rmL M.2.1) s m args below meth c H1 locs1 0 0 (MQ below (PostW M.1 ad sv D cT s.heap.size M.2.2.2.2.2 Q) args s 0 0 (AA M.1 ad s.heap.size)) (F0 m (pc + 3) la ((rv ad sv x).toList ++ r.map (cv ad sv))) := by
    intro x μ' H1 locs1 hx1 hx2 hx3 hx4 hx5
    obtain ⟨ty, hty⟩ := hrt
    rw [hty] at hx1
    rw [TOK_rv hx1]
    exact hK _ _ _ _ hx3 l ad sv D cT p e s m args below meth c C H1 locs1 la hx4 hx5 hL hV (VOKs.cons hvr hx2)
  have hM := h4 (by rw [hw]; exact VOKs.cons hva hvc) l ad sv D cT H.size
  rw [hw] at hM
  obtain ⟨k, rfl, hkk, hlay⟩ := vok hvc (by omega)
  have hlay : lay M.1 k = ci := by omega
  have hget := wsW_get (w := M.1) (ad := ad) (cT := cT) (μ := μ) hkk
  rw [cellE_obj hlay hC.2.2.2.2] at hget
  have hrecv := va_recv hK0 hP hC.1 hget
  have hpre := PreW.at (as := (100 + ci, (k : Int)) :: as) C hP hS
  rw [List.map_cons, cv_ref ad sv (by omega : 100 ≤ 100 + ci), Int.toNat_natCast] at hpre
  have hroom : (rmL M'.2.1).frames + 1 ≤ (rmL M.2.1).frames ∧ 8 + (M'.2.2.2.2.1 + 11) + (rmL M'.2.1).locals ≤ (rmL M.2.1).locals := ⟨hlv, by show 8 + (M'.2.2.2.2.1 + 11) + 40 * M'.2.1 ≤ 40 * M.2.1; have := hk.2.2.2; omega⟩
  have hG := good_gW (M := M) hk.1
  have hstk : List.map (cv ad sv) (as.reverse ++ (100 + ci, (k : Int)) :: r) = (as.map (cv ad sv)).reverse ++ .ref (ad k) :: r.map (cv ad sv) := by
    rw [List.map_append, List.map_reverse, List.map_cons, cv_ref ad sv (by omega : 100 ≤ 100 + ci), Int.toNat_natCast]
  rcases hl with hl | ⟨host, hl⟩
  · have cw := callB_of (R := rmL M.2.1) na hts hG rfl rfl rfl (hts _ (List.mem_cons_of_mem _ hk.2.1)) (hts _ (List.mem_cons_of_mem _ hl)) hk.2.2.1 hroom
    exact call_go (va_runV (As := as.map (cv ad sv)) (rest := r.map (cv ad sv)) ⟨hx, hb, hml, hown, hts⟩ hM ⟨cw, hts _ (List.mem_cons_of_mem _ hi), hts _ (List.mem_cons_of_mem _ hse)⟩ ⟨PreW.blind, hrecv, hpre⟩ rfl (by rw [List.length_map]; exact hlen) hL.1 hstk (lv_room2 hw8) hd ⟨Nat.le_refl _, Nat.le_refl _⟩) hS kk
  · have cw := va_cnB (R := rmL M.2.1) (host := host) na hts hG rfl rfl rfl (hnw _ hl) (hts _ (List.mem_cons_of_mem _ hk.2.1)) hk.2.2.1 hroom
    exact call_go (va_runVN (As := as.map (cv ad sv)) (rest := r.map (cv ad sv)) ⟨hx, hb, hml, hown, hts⟩ hM ⟨cw, hts _ (List.mem_cons_of_mem _ hi), hts _ (List.mem_cons_of_mem _ hse)⟩ ⟨PreW.blind, hrecv, hpre⟩ rfl (by rw [List.length_map]; exact hlen) hL.1 hstk (lv_room2 hw8) hd ⟨Nat.le_refl _, Nat.le_refl _⟩) hS kk
theorem s_callV {M M' : MD} {pc n t na index N : Nat} {T : u_T} {ty0 : Nat → FieldType} (ci : Nat) (hC : CLS ci M'.2.2.1.cls T N ty0) (ht : t = 100 + ci) (hw : M'.1 = M.1) (hlv : M'.2.1 + 1 ≤ M.2.1) (hk : MK M' na) (hrt : M'.2.2.2.2.2 = none) (hi : Cond.instanceMethod M'.2.2.1 ∈ gW) (hse : Cond.selects M'.2.2.1.cls M'.2.2.1 M'.2.2.1 ∈ gW) (hl : ML M.2.2.1.cls index M'.2.2.1) (hd : decode M.2.2.2.1 pc = .ok (.invokevirtual index, 3)) (hn : n = pc + 3) : Sound M pc (iCV t M' na n) := by
  subst ht
  subst hn
  intro Q ls st μ K hK h
  obtain ⟨as, r0, hlen, rfl, h1⟩ := argsK_elim h
  obtain ⟨u, r, rfl, h2⟩ := s1_elim h1
  obtain ⟨c0, rfl, h3⟩ := pT_elim h2
  obtain ⟨hw8, h4⟩ := w8_elim h3
  rw [List.append_nil] at h4
  intro l ad sv D cT p e s m args below meth c C H locs la hP hS hL hV hT
  obtain ⟨hx, hb, hml, hr, hlk, hown, hts, hnw, hK0, hAD, hst⟩ := id C
  obtain ⟨hva, hvr0⟩ := VOKs.app hT
  have hvc := VOKs.head hvr0
  have hvr := VOKs.tail hvr0
  have kk : ∀ (x : PV) (μ' : Mem) (H1 : Heap) (locs1 : List Loc), TOK M'.2.2.2.2.2 x → VOK M.1 x → K (pc + 3) ls r μ' → va_P D vwCl (wsW M.1 ad cT μ') H1 → va_S (AA M.1 ad s.heap.size) s.heap H1 locs1 → W p l e (rmL M.2.1) s m args below meth c H1 locs1 0 0 (MQ below (PostW M.1 ad sv D cT s.heap.size M.2.2.2.2.2 Q) args s 0 0 (AA M.1 ad s.heap.size)) (F0 m (pc + 3) la ((rv ad sv x).toList ++ r.map (cv ad sv))) := by
    intro x μ' H1 locs1 hx1 hx2 hx3 hx4 hx5
    rw [hrt] at hx1
    rw [TOK_rn hx1]
    exact hK _ _ _ _ hx3 l ad sv D cT p e s m args below meth c C H1 locs1 la hx4 hx5 hL hV hvr
  have hM := h4 (by rw [hw]; exact VOKs.cons hva hvc) l ad sv D cT H.size
  rw [hw] at hM
  obtain ⟨k, rfl, hkk, hlay⟩ := vok hvc (by omega)
  have hlay : lay M.1 k = ci := by omega
  have hget := wsW_get (w := M.1) (ad := ad) (cT := cT) (μ := μ) hkk
  rw [cellE_obj hlay hC.2.2.2.2] at hget
  have hrecv := va_recv hK0 hP hC.1 hget
  have hpre := PreW.at (as := (100 + ci, (k : Int)) :: as) C hP hS
  rw [List.map_cons, cv_ref ad sv (by omega : 100 ≤ 100 + ci), Int.toNat_natCast] at hpre
  have hroom : (rmL M'.2.1).frames + 1 ≤ (rmL M.2.1).frames ∧ 8 + (M'.2.2.2.2.1 + 11) + (rmL M'.2.1).locals ≤ (rmL M.2.1).locals := ⟨hlv, by show 8 + (M'.2.2.2.2.1 + 11) + 40 * M'.2.1 ≤ 40 * M.2.1; have := hk.2.2.2; omega⟩
  have hG := good_gW (M := M) hk.1
  have hstk : List.map (cv ad sv) (as.reverse ++ (100 + ci, (k : Int)) :: r) = (as.map (cv ad sv)).reverse ++ .ref (ad k) :: r.map (cv ad sv) := by
    rw [List.map_append, List.map_reverse, List.map_cons, cv_ref ad sv (by omega : 100 ≤ 100 + ci), Int.toNat_natCast]
  rcases hl with hl | ⟨host, hl⟩
  · have cw := callB_of (R := rmL M.2.1) na hts hG rfl rfl rfl (hts _ (List.mem_cons_of_mem _ hk.2.1)) (hts _ (List.mem_cons_of_mem _ hl)) hk.2.2.1 hroom
    exact call_go (va_runV (As := as.map (cv ad sv)) (rest := r.map (cv ad sv)) ⟨hx, hb, hml, hown, hts⟩ hM ⟨cw, hts _ (List.mem_cons_of_mem _ hi), hts _ (List.mem_cons_of_mem _ hse)⟩ ⟨PreW.blind, hrecv, hpre⟩ rfl (by rw [List.length_map]; exact hlen) hL.1 hstk (lv_room2 hw8) hd ⟨Nat.le_refl _, Nat.le_refl _⟩) hS kk
  · have cw := va_cnB (R := rmL M.2.1) (host := host) na hts hG rfl rfl rfl (hnw _ hl) (hts _ (List.mem_cons_of_mem _ hk.2.1)) hk.2.2.1 hroom
    exact call_go (va_runVN (As := as.map (cv ad sv)) (rest := r.map (cv ad sv)) ⟨hx, hb, hml, hown, hts⟩ hM ⟨cw, hts _ (List.mem_cons_of_mem _ hi), hts _ (List.mem_cons_of_mem _ hse)⟩ ⟨PreW.blind, hrecv, hpre⟩ rfl (by rw [List.length_map]; exact hlen) hL.1 hstk (lv_room2 hw8) hd ⟨Nat.le_refl _, Nat.le_refl _⟩) hS kk
theorem s_callS {M M' : MD} {pc n na index : Nat} (hw : M'.1 = M.1) (hlv : M'.2.1 + 1 ≤ M.2.1) (hk : MK M' na) (hrt : ∃ ty, M'.2.2.2.2.2 = some ty) (hi : Cond.static M'.2.2.1 ∈ gW) (hl : ML M.2.2.1.cls index M'.2.2.1) (hd : decode M.2.2.2.1 pc = .ok (.invokestatic index, 3)) (hn : n = pc + 3) : Sound M pc (iCS M' na n) := by
  subst hn
  intro Q ls st μ K hK h
  obtain ⟨as, r, hlen, rfl, h1⟩ := argsK_elim h
  obtain ⟨hw8, h4⟩ := w8_elim h1
  rw [List.append_nil] at h4
  intro l ad sv D cT p e s m args below meth c C H locs la hP hS hL hV hT
  obtain ⟨hx, hb, hml, hr, hlk, hown, hts, hnw, hK0, hAD, hst⟩ := id C
  obtain ⟨hva, hvr⟩ := VOKs.app hT
  have kk : ∀ (x : PV) (μ' : Mem) (H1 : Heap) (locs1 : List Loc), TOK M'.2.2.2.2.2 x → VOK M.1 x → K (pc + 3) ls (x :: r) μ' → va_P D vwCl (wsW M.1 ad cT μ') H1 → va_S (AA M.1 ad s.heap.size) s.heap H1 locs1 → W p l e (rmL M.2.1) s m args below meth c H1 locs1 0 0 (MQ below (PostW M.1 ad sv D cT s.heap.size M.2.2.2.2.2 Q) args s 0 0 (AA M.1 ad s.heap.size)) (F0 m (pc + 3) la ((rv ad sv x).toList ++ r.map (cv ad sv))) := by
    intro x μ' H1 locs1 hx1 hx2 hx3 hx4 hx5
    obtain ⟨ty, hty⟩ := hrt
    rw [hty] at hx1
    rw [TOK_rv hx1]
    exact hK _ _ _ _ hx3 l ad sv D cT p e s m args below meth c C H1 locs1 la hx4 hx5 hL hV (VOKs.cons hvr hx2)
  have hM := h4 (by rw [hw]; exact hva) l ad sv D cT H.size
  rw [hw] at hM
  have hpre := PreW.at (as := as) C hP hS
  have hroom : (rmL M'.2.1).frames + 1 ≤ (rmL M.2.1).frames ∧ 8 + (M'.2.2.2.2.1 + 11) + (rmL M'.2.1).locals ≤ (rmL M.2.1).locals := ⟨hlv, by show 8 + (M'.2.2.2.2.1 + 11) + 40 * M'.2.1 ≤ 40 * M.2.1; have := hk.2.2.2; omega⟩
  have hG := good_gW (M := M) hk.1
  have hstk : List.map (cv ad sv) (as.reverse ++ r) = (as.map (cv ad sv)).reverse ++ r.map (cv ad sv) := by
    rw [List.map_append, List.map_reverse]
  rcases hl with hl | ⟨host, hl⟩
  · have cw := callB_of (R := rmL M.2.1) na hts hG rfl rfl rfl (hts _ (List.mem_cons_of_mem _ hk.2.1)) (hts _ (List.mem_cons_of_mem _ hl)) hk.2.2.1 hroom
    exact call_go (va_runS (As := as.map (cv ad sv)) (rest := r.map (cv ad sv)) ⟨hx, hb, hml, hown, hts⟩ hM ⟨cw, hts _ (List.mem_cons_of_mem _ hi)⟩ ⟨PreW.blind, hpre⟩ rfl (by rw [List.length_map]; exact hlen) hL.1 hstk (lv_room2 hw8) hd ⟨Nat.le_refl _, Nat.le_refl _⟩) hS kk
  · have cw := va_cnB (R := rmL M.2.1) (host := host) na hts hG rfl rfl rfl (hnw _ hl) (hts _ (List.mem_cons_of_mem _ hk.2.1)) hk.2.2.1 hroom
    exact call_go (va_runSN (As := as.map (cv ad sv)) (rest := r.map (cv ad sv)) ⟨hx, hb, hml, hown, hts⟩ hM ⟨cw, hts _ (List.mem_cons_of_mem _ hi), trivial⟩ ⟨PreW.blind, hpre⟩ rfl (by rw [List.length_map]; exact hlen) hL.1 hstk (lv_room2 hw8) hd ⟨Nat.le_refl _, Nat.le_refl _⟩) hS kk
theorem s_callSV {M M' : MD} {pc n na index : Nat} (hw : M'.1 = M.1) (hlv : M'.2.1 + 1 ≤ M.2.1) (hk : MK M' na) (hrt : M'.2.2.2.2.2 = none) (hi : Cond.static M'.2.2.1 ∈ gW) (hl : ML M.2.2.1.cls index M'.2.2.1) (hd : decode M.2.2.2.1 pc = .ok (.invokestatic index, 3)) (hn : n = pc + 3) : Sound M pc (iCSV M' na n) := by
  subst hn
  intro Q ls st μ K hK h
  obtain ⟨as, r, hlen, rfl, h1⟩ := argsK_elim h
  obtain ⟨hw8, h4⟩ := w8_elim h1
  rw [List.append_nil] at h4
  intro l ad sv D cT p e s m args below meth c C H locs la hP hS hL hV hT
  obtain ⟨hx, hb, hml, hr, hlk, hown, hts, hnw, hK0, hAD, hst⟩ := id C
  obtain ⟨hva, hvr⟩ := VOKs.app hT
  have kk : ∀ (x : PV) (μ' : Mem) (H1 : Heap) (locs1 : List Loc), TOK M'.2.2.2.2.2 x → VOK M.1 x → K (pc + 3) ls r μ' → va_P D vwCl (wsW M.1 ad cT μ') H1 → va_S (AA M.1 ad s.heap.size) s.heap H1 locs1 → W p l e (rmL M.2.1) s m args below meth c H1 locs1 0 0 (MQ below (PostW M.1 ad sv D cT s.heap.size M.2.2.2.2.2 Q) args s 0 0 (AA M.1 ad s.heap.size)) (F0 m (pc + 3) la ((rv ad sv x).toList ++ r.map (cv ad sv))) := by
    intro x μ' H1 locs1 hx1 hx2 hx3 hx4 hx5
    rw [hrt] at hx1
    rw [TOK_rn hx1]
    exact hK _ _ _ _ hx3 l ad sv D cT p e s m args below meth c C H1 locs1 la hx4 hx5 hL hV hvr
  have hM := h4 (by rw [hw]; exact hva) l ad sv D cT H.size
  rw [hw] at hM
  have hpre := PreW.at (as := as) C hP hS
  have hroom : (rmL M'.2.1).frames + 1 ≤ (rmL M.2.1).frames ∧ 8 + (M'.2.2.2.2.1 + 11) + (rmL M'.2.1).locals ≤ (rmL M.2.1).locals := ⟨hlv, by show 8 + (M'.2.2.2.2.1 + 11) + 40 * M'.2.1 ≤ 40 * M.2.1; have := hk.2.2.2; omega⟩
  have hG := good_gW (M := M) hk.1
  have hstk : List.map (cv ad sv) (as.reverse ++ r) = (as.map (cv ad sv)).reverse ++ r.map (cv ad sv) := by
    rw [List.map_append, List.map_reverse]
  rcases hl with hl | ⟨host, hl⟩
  · have cw := callB_of (R := rmL M.2.1) na hts hG rfl rfl rfl (hts _ (List.mem_cons_of_mem _ hk.2.1)) (hts _ (List.mem_cons_of_mem _ hl)) hk.2.2.1 hroom
    exact call_go (va_runS (As := as.map (cv ad sv)) (rest := r.map (cv ad sv)) ⟨hx, hb, hml, hown, hts⟩ hM ⟨cw, hts _ (List.mem_cons_of_mem _ hi)⟩ ⟨PreW.blind, hpre⟩ rfl (by rw [List.length_map]; exact hlen) hL.1 hstk (lv_room2 hw8) hd ⟨Nat.le_refl _, Nat.le_refl _⟩) hS kk
  · have cw := va_cnB (R := rmL M.2.1) (host := host) na hts hG rfl rfl rfl (hnw _ hl) (hts _ (List.mem_cons_of_mem _ hk.2.1)) hk.2.2.1 hroom
    exact call_go (va_runSN (As := as.map (cv ad sv)) (rest := r.map (cv ad sv)) ⟨hx, hb, hml, hown, hts⟩ hM ⟨cw, hts _ (List.mem_cons_of_mem _ hi), trivial⟩ ⟨PreW.blind, hpre⟩ rfl (by rw [List.length_map]; exact hlen) hL.1 hstk (lv_room2 hw8) hd ⟨Nat.le_refl _, Nat.le_refl _⟩) hS kk
theorem s_ireturn {M : MD} {pc : Nat} (hrt : M.2.2.2.2.2 = some .int) (hd : decode M.2.2.2.1 pc = .ok (.ireturn, 1)) : Sound M pc iRI := by
  intro Q ls st μ K hK h
  obtain ⟨v, r, rfl, h1⟩ := s1_elim h
  obtain ⟨z, rfl, h2⟩ := pI_elim h1
  intro l ad sv D cT p e s m args below meth c C H locs la hP hS hL hV hT
  obtain ⟨hx, hb, hml, hr, hlk, hown, hts, hnw, hK0, hAD, hst⟩ := id C
  cases r with
  | cons q r => exact h2.elim
  | nil =>
    rw [hrt] at hr
    rw [hrt]
    exact W.iret (v := Int32.ofInt z) hx hb hr (fun t ht hW => ⟨⟨(0, z), μ, rfl, rfl, VOK_lt (Nat.zero_lt_succ 99), h2, by rw [ht]; exact hP⟩, hS.F ht⟩) hS.2.2 hd hlk
theorem s_zreturn {M : MD} {pc : Nat} (hrt : M.2.2.2.2.2 = some .boolean) (hd : decode M.2.2.2.1 pc = .ok (.ireturn, 1)) : Sound M pc iRZ := by
  intro Q ls st μ K hK h
  obtain ⟨v, r, rfl, h1⟩ := s1_elim h
  obtain ⟨z, rfl, h2⟩ := pI_elim h1
  intro l ad sv D cT p e s m args below meth c C H locs la hP hS hL hV hT
  obtain ⟨hx, hb, hml, hr, hlk, hown, hts, hnw, hK0, hAD, hst⟩ := id C
  cases r with
  | cons q r => exact h2.elim
  | nil =>
    obtain ⟨hz, h2⟩ := h2
    rw [hrt] at hr
    rw [hrt]
    exact W.zret (v := Int32.ofInt z) hx hb hr (by rcases hz with rfl | rfl <;> rfl) (fun t ht hW => ⟨⟨(0, z), μ, rfl, rfl, VOK_lt (Nat.zero_lt_succ 99), h2, by rw [ht]; exact hP⟩, hS.F ht⟩) hS.2.2 hd hlk
theorem s_return {M : MD} {pc : Nat} (hrt : M.2.2.2.2.2 = none) (hd : decode M.2.2.2.1 pc = .ok (.return_, 1)) : Sound M pc iRV := by
  intro Q ls st μ K hK h
  intro l ad sv D cT p e s m args below meth c C H locs la hP hS hL hV hT
  obtain ⟨hx, hb, hml, hr, hlk, hown, hts, hnw, hK0, hAD, hst⟩ := id C
  cases st with
  | cons q r => exact h.elim
  | nil =>
    rw [hrt] at hr
    rw [hrt]
    exact W.vret hx hb hr (fun t ht hW => ⟨⟨(9, 0), μ, rfl, rfl, VOK_lt (by show (9 : Nat) < 100; omega), h, by rw [ht]; exact hP⟩, hS.F ht⟩) hS.2.2 hd hlk
theorem s_areturn {M : MD} {pc : Nat} {Cn : String} (hrt : M.2.2.2.2.2 = some (.object Cn)) (hd : decode M.2.2.2.1 pc = .ok (.areturn, 1)) : Sound M pc iRA := by
  intro Q ls st μ K hK h
  obtain ⟨⟨t0, z⟩, r, rfl, h1⟩ := s1_elim h
  obtain ⟨ht0, h2⟩ := pR_elim h1
  intro l ad sv D cT p e s m args below meth c C H locs la hP hS hL hV hT
  obtain ⟨hx, hb, hml, hr, hlk, hown, hts, hnw, hK0, hAD, hst⟩ := id C
  cases r with
  | cons q r => exact h2.elim
  | nil =>
    rw [hrt] at hr
    rw [hrt]
    have hvk := VOKs.head hT
    rw [List.map_cons, List.map_nil, cv_ref ad sv ht0]
    exact W.aret (v := .ref (ad z.toNat)) hx hb hr (Or.inl ⟨Cn, rfl⟩) (Or.inr ⟨_, rfl⟩) (fun t ht hW => ⟨⟨(t0, z), μ, by dsimp only at ht0; unfold rv; rw [if_neg (by dsimp only; omega), cv_ref ad sv ht0], ht0, hvk, h2, by rw [ht]; exact hP⟩, hS.F ht⟩) hS.2.2 hd hlk
theorem lv_args_mem (ad sv : Nat → Nat) : ∀ (as : List PV) (b : Nat), (∀ v ∈ as, v.1 ≠ 1) → ∀ (i : Nat) (v : PV), as[i]? = some v → (b + i, cv ad sv v) ∈ lv_args b (as.map (cv ad sv))
  | [], b, _, i, v, h => by simp at h
  | u :: as, b, hn, 0, v, h => by
    cases h
    exact List.mem_cons_self
  | u :: as, b, hn, i + 1, v, h => by
    rw [List.getElem?_cons_succ] at h
    have h1 := lv_args_mem ad sv as (b + 1) (fun q hq => hn q (List.mem_cons_of_mem _ hq)) i v h
    rw [List.map_cons]
    unfold lv_args
    rw [if_neg (by rw [cv_cat (hn u List.mem_cons_self)]; decide), show b + (i + 1) = b + 1 + i by omega]
    exact List.mem_cons_of_mem _ h1
theorem lg_sl_len (ad sv : Nat → Nat) : ∀ (as : List PV), (∀ v ∈ as, v.1 ≠ 1) → (lg_sl (as.map (cv ad sv))).length = as.length
  | [], _ => rfl
  | u :: as, hn => by
    have h1 := lg_sl_len ad sv as (fun q hq => hn q (List.mem_cons_of_mem _ hq))
    unfold lg_sl at h1 ⊢
    rw [List.map_cons, List.flatMap_cons, List.length_append, h1, if_neg (by rw [cv_cat (hn u List.mem_cons_self)]; decide)]
    simp; omega
def noL : List PV → Bool
  | [] => true
  | v :: r => match Nat.beq v.1 1 with
    | true => false
    | false => noL r
theorem noL_spec : ∀ {as : List PV}, noL as = true → ∀ v ∈ as, v.1 ≠ 1
  | [], _, v, hv => by cases hv
  | u :: as, h, v, hv => by
    unfold noL at h
    cases hb : Nat.beq u.1 1 with
    | true => rw [hb] at h; cases h
    | false =>
      rw [hb] at h
      rcases List.mem_cons.mp hv with rfl | hv
      · exact Nat.ne_of_beq_eq_false hb
      · exact noL_spec h v hv
def pads (n : Nat) : List PV := List.replicate n (9, 0)
theorem MetP.of {M : MD} {as ls : List PV} {μ : Mem} {P : PV → Mem → Prop} (hy : plainName M.2.2.1.cls = true) (hno : noL as = true) (hle : as.length ≤ M.2.2.2.2.1) (hls : ls = as ++ pads (M.2.2.2.2.1 - as.length)) (h : (∀ v ∈ as, VOK M.1 v) → OkE M 0 ls [] μ P) : MetP M as μ P := by
  subst hls
  intro hv l ad sv D cT sz
  have hno2 := noL_spec hno
  refine Met.ofW (cc := M.2.2.2.1) (maxL := M.2.2.2.2.1) (ret := M.2.2.2.2.2) hy rfl ?_
  intro p e s m args below meth c s₁ B hml hpre
  obtain ⟨rfl, rfl, hP, hK, hD0, hN, hSt⟩ := hpre
  have hlen := lg_sl_len ad sv as hno2
  have hl := lv_entry (as.map (cv ad sv)) (n := M.2.2.2.2.1) (by rw [hlen]; exact hle)
  rw [lg_entry_eq]
  generalize (lg_sl (as.map (cv ad sv)) ++ List.replicate (M.2.2.2.2.1 - (lg_sl (as.map (cv ad sv))).length) Slot.unset).toArray = la at hl ⊢
  have hLH : LH ad sv la M.2.2.2.2.1 (as ++ pads (M.2.2.2.2.1 - as.length)) := by
    refine ⟨hl.1, hl.2.1, by simp [pads]; omega, fun i v hi h9 h1 => ?_⟩
    by_cases hil : i < as.length
    · rw [List.getElem?_append_left hil] at hi
      have h2 := lv_args_mem ad sv as 0 hno2 i v hi
      rw [Nat.zero_add] at h2
      exact hl.2.2 _ h2
    · rw [List.getElem?_append_right (by omega)] at hi
      have h2 := List.mem_of_getElem? hi
      exact absurd (congrArg Prod.fst (List.eq_of_mem_replicate h2)) h9
  have hvl : ∀ v ∈ as ++ pads (M.2.2.2.2.1 - as.length), VOK M.1 v := by
    intro v hv2
    rcases List.mem_append.mp hv2 with h2 | h2
    · exact hv v h2
    · rw [List.eq_of_mem_replicate h2]
      exact VOK_lt (by show (9 : Nat) < 100; omega)
  exact h hv l ad sv D cT p e s m _ below meth c ⟨B.exec, B.bytes, hml, B.returns, B.notSynchronized, findClass_of_methodNamed B.named, atoms_spec (ws := mCode M :: gW) B.pre, hN, hK, hD0.self _, hSt⟩ s.heap [] la hP va_S.rf hLH hvl (fun v hv2 => by cases hv2)
