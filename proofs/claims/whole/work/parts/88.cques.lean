/-! exceptions, target: the reference -/
def exC (T : List (Int × Int)) : Int := (T.countP (fun q => decide (q.2 = 16)) : Int)
theorem exC_take {T : List (Int × Int)} {i : Nat} (hi : i < T.length) : exC (T.take (i + 1)) = exC (T.take i) + if vAt T i = 16 then 1 else 0 := by
  unfold exC
  rw [take_succ_get T i _ (kAt_get hi), List.countP_append, List.countP_cons, List.countP_nil]
  simp only [decide_eq_true_eq]
  split <;> push_cast <;> omega
theorem exC_rng (T : List (Int × Int)) (i : Nat) : 0 ≤ exC (T.take i) ∧ exC (T.take i) ≤ i := by
  unfold exC
  have h1 := List.countP_le_length (p := fun q : Int × Int => decide (q.2 = 16)) (l := T.take i)
  rw [List.length_take] at h1
  omega
theorem tOf_ok {B : Int} {S : ftS} (hok : sOk B S) : lOk (tOf S) ∧ (tOf S).length ≤ 60 := by
  have hEo := eOf_ok hok
  refine ⟨tgL_ok hEo.1 _ _ (Nat.le_refl _), ?_⟩
  have : ∀ n, (tgL (eOf S) (bB S) n).length ≤ n := by
    intro n
    induction n with
    | zero => exact Nat.le_refl 0
    | succ n ih =>
      rw [tgL_succ, List.length_append]
      have : (tgO (eOf S) (bB S) n).length ≤ 1 := by
        unfold tgO
        split
        · exact Nat.le_refl 1
        · split
          · exact Nat.le_refl 1
          · exact Nat.zero_le 1
      omega
  have := this (eOf S).length
  unfold tOf
  omega
theorem d_Mo_exceptions {h : ftH} {S : ftS} {P : List ftS} (hI : mcI h S P) {B : Int} (hok : sOk B S) (hla : flI h S) : ft_C k_Mo_exceptions [.inr (.inr 309)] h (fun r h' => r = some (.inl (exC (tOf S))) ∧ qFr h h' ∧ flI h' S) := by
  have hT := tOf_ok hok
  refine ft_enter (n := 2) rfl (Nat.le_of_ble_eq_true rfl) rfl (b_Mo_exceptions_0 ⟨_, d_Mo_laysTarget hI hok hla, fun h1 hw => ?_⟩)
  obtain ⟨-, u1, u2, u3, -⟩ := hw
  have loop : ∀ m i : Nat, i + m = (tOf S).length → ft_V k_Mo_exceptions 8 [some (.inr (.inr 309)), some (.inl (exC ((tOf S).take i))), some (.inl (i : Int))] [] h1 (fun r h' => r = some (.inl (exC (tOf S))) ∧ qFr h h' ∧ flI h' S) := by
    intro m
    induction m with
    | zero =>
      intro i hm
      refine b_Mo_exceptions_8 ⟨fun _ => ⟨?_, u1, Or.inr u2.1⟩, fun c => absurd (by rw [u3.1]; omega) c⟩
      rw [List.take_of_length_le (by omega)]
    | succ m ih =>
      intro i hm
      have ha := tgI_at u3 (show i < (tOf S).length by omega)
      have hi := ih (i + 1) (by omega)
      have hr := exC_rng (tOf S) i
      rw [exC_take (by omega)] at hi
      refine b_Mo_exceptions_8 ⟨fun c => absurd c (by rw [u3.1]; omega), fun _ => ?_⟩
      rw [Int.toNat_natCast, ← ha.2.1, inc1 (by omega)]
      refine ⟨⟨by omega, by omega⟩, fun c => ?_, fun c => ?_⟩
      · rw [if_neg c, Int.add_zero] at hi; exact hi
      · rw [if_pos c] at hi
        rw [ft_add_eq ⟨by omega, by omega⟩]
        exact hi
  exact loop (tOf S).length 0 (by omega)
theorem d_Mo_targetSize {h : ftH} {S : ftS} {P : List ftS} (hI : mcI h S P) {B : Int} (hok : sOk B S) (hla : flI h S) : ft_C k_Mo_targetSize [.inr (.inr 309)] h (fun r h' => r = some (.inl ((tOf S).length : Int)) ∧ qFr h h' ∧ flI h' S) := by
  refine ft_enter (n := 0) rfl (Nat.le_of_ble_eq_true rfl) rfl (b_Mo_targetSize_0 ⟨_, d_Mo_laysTarget hI hok hla, fun h1 hw => ?_⟩)
  exact ⟨by rw [hw.2.2.2.1.1], hw.2.1, Or.inr hw.2.2.1.1⟩
noncomputable def qTgt (i w : Int) (S : ftS) : Int := if i < 0 ∨ ¬ (0 ≤ w ∧ w ≤ 2) then -1 else qTell (tOf S) i w
theorem d_Mo_target {h : ftH} {S : ftS} {P : List ftS} (hI : mcI h S P) {B : Int} (hok : sOk B S) (hla : flI h S) {i w : Int} : ft_C k_Mo_target [.inr (.inr 309), .inl i, .inl w] h (fun r h' => r = some (.inr (.inl (qTgt i w S))) ∧ qFr h h' ∧ flI h' S) := by
  have hT := tOf_ok hok
  have bad : (i < 0 ∨ ¬ (0 ≤ w ∧ w ≤ 2)) → ((some (.inr (.inl (-1))) : Option ftV) = some (.inr (.inl (qTgt i w S))) ∧ qFr h h ∧ flI h S) := fun q => by unfold qTgt; rw [if_pos q]; exact ⟨rfl, qFr_refl h, hla⟩
  refine ft_enter (n := 0) rfl (Nat.le_of_ble_eq_true rfl) rfl (b_Mo_target_0 ⟨fun c => bad (by omega), fun c => ⟨fun d => ⟨_, d_Mo_laysTarget hI hok hla, fun h1 hw => ?_⟩, fun d => bad (by omega)⟩⟩)
  obtain ⟨-, u1, u2, u3, -⟩ := hw
  have fin : qFr h h1 ∧ flI h1 S := ⟨u1, Or.inr u2.1⟩
  obtain ⟨k, rfl⟩ := Int.eq_ofNat_of_zero_le (show 0 ≤ i by omega)
  rw [u3.1]
  unfold qTgt qTell
  rw [if_neg (by omega), Int.toNat_natCast]
  refine ⟨fun e => ?_, fun e => ?_⟩
  · have hk : k < (tOf S).length := by omega
    have ha := tgI_at u3 hk
    rw [kAt_get hk]
    unfold tellK
    simp only
    have e1 : kAt (tOf S) k / 64 = pUn (h1 326 k) := ha.2.2.1
    have e2 : kAt (tOf S) k % 64 = h1 327 k := ha.2.2.2
    rw [e1, e2, ha.2.1]
    refine ⟨fun q => ⟨fun q1 => ⟨⟨by omega, by omega⟩, by rw [if_neg q, if_neg q1], fin⟩, fun q1 => ⟨⟨by omega, by omega⟩, by rw [if_neg q, if_pos q1], fin⟩⟩, fun q => ⟨⟨by omega, by omega⟩, by rw [if_pos q], fin⟩⟩
  · rw [List.getElem?_eq_none (by omega)]
    exact ⟨rfl, fin⟩
/-! the class: what is worked out, by levels -/
def lv1 (h : ftH) (S : ftS) : Prop := cvF h 115 S.2.1
def lv2 (h : ftH) (S : ftS) : Prop := (ft_ps h 133 ∧ ft_pl h 133 = eOf S) ∧ cvF h 136 (eOf S)
def lv3 (h : ftH) (S : ftS) : Prop := (∀ i, i < (eOf S).length → h 144 i = hOf S i) ∧ h 143 2 = sm (hOf S) (eOf S).length ∧ Rw h (eOf S) (hOf S) (eOf S).length (-1) 0 ∧ h 143 3 = (bB S : Int) ∧ ft_ps h 145 ∧ ft_pl h 145 = tOf S
theorem lv1_fr {h h' : ftH} {S : ftS} (f : ∀ c, 115 ≤ c → c < 122 → h' c = h c) (hl : lv1 h S) : lv1 h' S := cvF_fr hl (fun k k1 k2 => f k (by omega) (by omega))
theorem ps_fr {h h' : ftH} {a : Nat} (f : ∀ c, a ≤ c → c < a + 3 → h' c = h c) {L : List (Int × Int)} (hp : ft_ps h a ∧ ft_pl h a = L) : ft_ps h' a ∧ ft_pl h' a = L := by
  unfold ft_ps ft_pl
  rw [f a (by omega) (by omega), f (a + 1) (by omega) (by omega), f (a + 2) (by omega) (by omega)]
  exact hp
theorem lv2_fr {h h' : ftH} {S : ftS} (f : ∀ c, 133 ≤ c → c < 143 → h' c = h c) (hl : lv2 h S) : lv2 h' S := ⟨ps_fr (fun c c1 c2 => f c (by omega) (by omega)) hl.1, cvF_fr hl.2 (fun k k1 k2 => f k (by omega) (by omega))⟩
theorem lv3_fr {h h' : ftH} {S : ftS} (f : ∀ c, 143 ≤ c → c < 289 → h' c = h c) (hl : lv3 h S) : lv3 h' S := by
  obtain ⟨a1, a2, a3, a4, a5⟩ := hl
  refine ⟨fun i hi => by rw [f 144 (by omega) (by omega)]; exact a1 i hi, by rw [f 143 (by omega) (by omega)]; exact a2, Rw_fr a3 (by rw [f 286 (by omega) (by omega)]) (fun k hk => ⟨f _ (by omega) (by omega), f _ (by omega) (by omega)⟩), by rw [f 143 (by omega) (by omega)]; exact a4, ps_fr (fun c c1 c2 => f c (by omega) (by omega)) a5⟩
theorem s_115 : ft_sh 115 = some (.inl 2) := by decide +kernel
theorem s_133 : ft_sh 133 = some (.inl 4) := by decide +kernel
theorem s_136 : ft_sh 136 = some (.inl 2) := by decide +kernel
theorem s_145 : ft_sh 145 = some (.inl 4) := by decide +kernel
theorem l_117 : ft_ln 117 = 60 := by decide +kernel
theorem l_138 : ft_ln 138 = 60 := by decide +kernel
/-- the steps of settling -/
theorem st_1 {h : ftH} {S : ftS} {P : List ftS} (hI : ccI h S P) {B : Int} (hok : sOk B S) : ft_C k_Cv_sweep [.inr (.inr 115), .inr (.inr 2)] h (fun r h' => r = none ∧ (∀ k, k < 115 ∨ 122 ≤ k → h' k = h k) ∧ lv1 h' S) := by
  obtain ⟨p1, p2, p3⟩ := cc_ps hI hok
  obtain ⟨e0, e1, e2, e3, e4⟩ := cc_eq hI
  exact c_Cv_sweep (a := 115) (b := 2) s_115 sh_2 (Or.inl (by omega)) hok.2.1.1 (by rw [show 115 + 2 = 117 from rfl, l_117]; exact hok.2.1.2.2) (setI_of p1 e1)
theorem st_2 {h : ftH} {S : ftS} {P : List ftS} (hI : ccI h S P) {B : Int} (hok : sOk B S) {R : ftH → Prop} (hk : ∀ h', (∀ k, k < 122 ∨ 143 ≤ k → h' k = h k) → lv2 h' S → R h') : ∃ R1 : Option ftV → ftH → Prop, ft_C k_Co_compress [.inr (.inr 122), .inr (.inr 2)] h R1 ∧ ∀ (z3 : Int) (h1 : ftH), ft_in z3 → R1 (some (.inl z3)) h1 → (∃ R4 : Option ftV → ftH → Prop, ft_C k_Co_collect [.inr (.inr 122), .inr (.inr 133)] h1 R4 ∧ ∀ h2 : ftH, R4 none h2 → (∃ R6 : Option ftV → ftH → Prop, ft_C k_Cv_sweep [.inr (.inr 136), .inr (.inr 133)] h2 R6 ∧ ∀ h3 : ftH, R6 none h3 → R h3)) := by
  obtain ⟨p1, p2, p3⟩ := cc_ps hI hok
  obtain ⟨e0, e1, e2, e3, e4⟩ := cc_eq hI
  have hEo := eOf_ok hok
  have h15 : hop15 S.2.1 := fun q hq => ⟨(hok.2.1.1.1 q hq).2.1, hok.2.1.2.1 q hq⟩
  refine ⟨_, c_Co_compress sh_2 (Or.inl (by omega)) hok.2.1.1 h15 hok.2.1.2.2 (setI_of p1 e1), fun z3 h1 _ hw => ?_⟩
  obtain ⟨-, u1, u2⟩ := hw
  refine ⟨_, c_Co_collect (b := 133) s_133 (Or.inr (by omega)) ⟨hEo.1, hEo.2.2⟩ u1, fun h2 hw2 => ?_⟩
  obtain ⟨-, v1, v2⟩ := hw2
  refine ⟨_, c_Cv_sweep (a := 136) (b := 133) s_136 s_133 (Or.inl (by omega)) hEo.1 (by rw [show 136 + 2 = 138 from rfl, l_138]; exact hEo.2.2) (setI_of v1.1 v1.2), fun h3 hw3 => ?_⟩
  obtain ⟨-, w1, w2⟩ := hw3
  exact hk h3 (fun k hk' => by rw [w1 k (by omega), v2 k (by omega), u2 k (by omega)]) ⟨ps_fr (fun c c1 c2 => w1 c (by omega)) v1, w2⟩
theorem st_3 {h : ftH} {S : ftS} {P : List ftS} (hI : ccI h S P) {B : Int} (hok : sOk B S) (h2l : lv2 h S) {R : ftH → Prop} (hk : ∀ h', (∀ k, k < 143 ∨ 289 ≤ k → h' k = h k) → lv3 h' S → R h') : ∃ R1 : Option ftV → ftH → Prop, ft_C k_Ch_countHits [.inr (.inr 143), .inr (.inr 133), .inr (.inr 8)] h R1 ∧ ∀ h1 : ftH, R1 none h1 → (∃ R3 : Option ftV → ftH → Prop, ft_C k_Ch_weigh [.inr (.inr 143), .inr (.inr 136), .inl (h1 133 2)] h1 R3 ∧ ∀ h2 : ftH, R3 none h2 → (∃ R5 : Option ftV → ftH → Prop, ft_C k_Ch_choose [.inr (.inr 143), .inr (.inr 133), .inr (.inr 136), .inl (h2 1 0)] h2 R5 ∧ ∀ h3 : ftH, R5 none h3 → R h3)) := by
  obtain ⟨e0, e1, e2, e3, e4⟩ := cc_eq hI
  have hEo := eOf_ok hok
  have hHo := hOf_ok hok
  have z3 : 0 ≤ h 8 2 ∧ h 8 2 ≤ 40 := hI.1.1.2.2
  refine ⟨_, c_Ch_hits hEo.2.2 hok.2.2.2.1 h2l.1.1 h2l.1.2 e3 z3.1, fun h1 hw => ?_⟩
  obtain ⟨-, u1, u2, u3⟩ := hw
  have n133 : h1 133 2 = ((eOf S).length : Int) := by rw [u3 133 (by omega) (by omega)]; exact (setI_of h2l.1.1 h2l.1.2).1
  rw [n133]
  refine ⟨_, c_Ch_weigh hEo.1 hEo.2.2 hHo.1 hHo.2.1 (h := h1) u1 (fun i hi => by rw [u3 139 (by omega) (by omega)]; exact (h2l.2.1 i hi).2.1), fun h2 hw2 => ?_⟩
  obtain ⟨-, v1, v2⟩ := hw2
  have hR := chI_top hEo.1 v1
  have hS2 : setI h2 133 (eOf S) := setI_fr (setI_of h2l.1.1 h2l.1.2) (fun k k1 k2 => by rw [v2 k (by omega), u3 k (by omega) (by omega)])
  have c10 : h2 1 0 = (S.1.toNat : Int) := by
    rw [v2 1 (by omega), u3 1 (by omega) (by omega), e0]
    have := hok.1
    omega
  rw [c10]
  refine ⟨_, c_Ch_choose hEo.1 hEo.2.2 hHo.1 hS2 (fun i hi => by rw [v2 138 (by omega), u3 138 (by omega) (by omega)]; exact (h2l.2.1 i hi).1) hR, fun h3 hw3 => ?_⟩
  obtain ⟨-, ⟨b, D, w1, w2, w3, w4⟩, w5, w6⟩ := hw3
  have hb := bsX_eq w1
  refine hk h3 (fun k hk' => by rw [w6 k (by omega) (by omega), v2 k (by omega), u3 k (by omega) (by omega)]) ⟨fun i hi => by rw [w6 144 (by omega) (by omega), v2 144 (by omega)]; exact u1 i hi, ?_, Rw_fr hR (by rw [w6 286 (by omega) (by omega)]) (fun k hk' => ⟨w6 _ (by omega) (by omega), w6 _ (by omega) (by omega)⟩), ?_, w3, ?_⟩
  · rw [w5 2 (by omega), v2 143 (by omega), u2, hHo.2.2]
  · rw [w2, show bB S = bD D from hb.2.1]
  · rw [w4]
    unfold tOf
    rw [show bB S = bD D from hb.2.1]
