/-! simple questions on both sides -/
def tellK (q : Int × Int) (w : Int) : Int := if w = 0 then q.1 / 64 else if w = 1 then q.1 % 64 else q.2
def qTell (L : List (Int × Int)) (i w : Int) : Int := match L[i.toNat]? with
  | some q => tellK q w
  | none => -2
def qHw (i w : Int) (S : ftS) : Int := if i < 0 ∨ ¬ (0 ≤ w ∧ w ≤ 2) then -1 else qTell S.2.2.1 i w
def qLog (i w : Int) (S : ftS) : Int := if i < 0 ∨ ¬ (0 ≤ w ∧ w ≤ 1) then -1 else match S.2.2.2.1[i.toNat]? with
  | some q => if w = 0 then q.1 else q.2
  | none => -2
def qCnt (w : Int) (S : ftS) : Int := if 0 ≤ w ∧ w ≤ 4 then S.2.2.2.2.getD w.toNat 0 else -1
/-- the answer of a list for an address: 0 if none -/
def ansOf (L : List (Int × Int)) (x : Int) : Int := match lmatch L x with
  | some q => q.2
  | none => 0
def qHop (hop : Int) (S : ftS) : Int := if 0 ≤ hop ∧ hop ≤ 15 then (S.2.2.2.1.map fun q => if ansOf S.2.1 q.1 = hop then q.2 else 0).sum else -1
theorem lmatch_mem {L : List (Int × Int)} {x : Int} {q : Int × Int} (h : lmatch L x = some q) : q ∈ L := by
  unfold lmatch at h
  exact List.mem_reverse.mp (List.mem_of_find?_eq_some h)
/-! the class -/
theorem cc_eq {h : ftH} {S : ftS} {P : List ftS} (hI : ccI h S P) : h 1 0 = S.1 ∧ ft_pl h 2 = S.2.1 ∧ ft_pl h 5 = S.2.2.1 ∧ ft_pl h 8 = S.2.2.2.1 ∧ ft_ct h 11 = S.2.2.2.2 := by
  have s := hI.1.2
  rw [ft_sa_1] at s
  exact ⟨congrArg (fun s : ftS => s.1) s, congrArg (fun s : ftS => s.2.1) s, congrArg (fun s : ftS => s.2.2.1) s, congrArg (fun s : ftS => s.2.2.2.1) s, congrArg (fun s : ftS => s.2.2.2.2) s⟩
theorem pl_len {h : ftH} {a : Nat} {L : List (Int × Int)} (e : ft_pl h a = L) (h0 : 0 ≤ h a 2) : (L.length : Int) = h a 2 := by
  rw [← e, ft_pl_len]
  omega
theorem cc_len {h : ftH} {S : ftS} {P : List ftS} (hI : ccI h S P) : (S.2.1.length : Int) = h 2 2 ∧ (S.2.2.1.length : Int) = h 5 2 ∧ (S.2.2.2.1.length : Int) = h 8 2 := by
  obtain ⟨e0, e1, e2, e3, e4⟩ := cc_eq hI
  obtain ⟨z1, z2, z3⟩ := hI.1.1
  exact ⟨pl_len e1 z1.1, pl_len e2 z2.1, pl_len e3 z3.1⟩
theorem pl_at {h : ftH} {a : Nat} {L : List (Int × Int)} (e : ft_pl h a = L) {i : Int} (h0 : 0 ≤ i) (hi : i < h a 2) : L[i.toNat]? = some (h (a + 1) i.toNat, h (a + 2) i.toNat) := by
  rw [← e]
  exact ft_pl_get (by omega)
theorem pl_no {h : ftH} {a : Nat} {L : List (Int × Int)} (e : ft_pl h a = L) {i : Int} (h0 : 0 ≤ i) (hi : h a 2 ≤ i) : L[i.toNat]? = none := by
  rw [← e]
  exact ft_pl_none (by omega)
theorem d_FT_capacity {h : ftH} {S : ftS} {P : List ftS} (hI : ccI h S P) : ft_C k_FT_capacity [.inr (.inr 0)] h (fun r h' => r = some (.inl S.1) ∧ h' = h) :=
  ft_enter (n := 0) rfl (Nat.le_of_ble_eq_true rfl) rfl (b_FT_capacity_0 ⟨by rw [(cc_eq hI).1], rfl⟩)
theorem d_FT_routes {h : ftH} {S : ftS} {P : List ftS} (hI : ccI h S P) : ft_C k_FT_routes [.inr (.inr 0)] h (fun r h' => r = some (.inl (S.2.1.length : Int)) ∧ h' = h) :=
  ft_enter (n := 0) rfl (Nat.le_of_ble_eq_true rfl) rfl (b_FT_routes_0 ⟨by rw [(cc_len hI).1], rfl⟩)
theorem d_FT_logged {h : ftH} {S : ftS} {P : List ftS} (hI : ccI h S P) : ft_C k_FT_logged [.inr (.inr 0)] h (fun r h' => r = some (.inl (S.2.2.2.1.length : Int)) ∧ h' = h) :=
  ft_enter (n := 0) rfl (Nat.le_of_ble_eq_true rfl) rfl (b_FT_logged_0 ⟨by rw [(cc_len hI).2.2], rfl⟩)
theorem d_FT_hardwareSize {h : ftH} {S : ftS} {P : List ftS} (hI : ccI h S P) : ft_C k_FT_hardwareSize [.inr (.inr 0)] h (fun r h' => r = some (.inl (S.2.2.1.length : Int)) ∧ h' = h) :=
  ft_enter (n := 0) rfl (Nat.le_of_ble_eq_true rfl) rfl (b_FT_hardwareSize_0 ⟨by rw [(cc_len hI).2.1], rfl⟩)
theorem d_FT_log {h : ftH} {S : ftS} {P : List ftS} (hI : ccI h S P) {i w : Int} : ft_C k_FT_log [.inr (.inr 0), .inl i, .inl w] h (fun r h' => r = some (.inr (.inl (qLog i w S))) ∧ h' = h) := by
  obtain ⟨e0, e1, e2, e3, e4⟩ := cc_eq hI
  have z3 : 0 ≤ h 8 2 ∧ h 8 2 ≤ 40 := hI.1.1.2.2
  have bad : (i < 0 ∨ ¬ (0 ≤ w ∧ w ≤ 1)) → ((some (.inr (.inl (-1))) : Option ftV) = some (.inr (.inl (qLog i w S))) ∧ h = h) := fun q => by unfold qLog; rw [if_pos q]; exact ⟨rfl, rfl⟩
  refine ft_enter (n := 0) rfl (Nat.le_of_ble_eq_true rfl) rfl (b_FT_log_0 ⟨fun c => bad (by omega), fun c => ⟨fun d => bad (by omega), fun d => ⟨fun e => ⟨fun f => ?_, fun f => ?_⟩, fun e => bad (by omega)⟩⟩⟩)
  · have g := pl_at e3 (i := i) (by omega) f
    unfold qLog
    rw [if_neg (by omega), g]
    exact ⟨fun q => ⟨⟨by omega, by omega⟩, by simp only; rw [if_neg q], rfl⟩, fun q => ⟨⟨by omega, by omega⟩, by simp only; rw [if_pos q], rfl⟩⟩
  · have g := pl_no e3 (i := i) (by omega) (by omega)
    unfold qLog
    rw [if_neg (by omega), g]
    exact ⟨rfl, rfl⟩
theorem d_FT_hardware {h : ftH} {S : ftS} {P : List ftS} (hI : ccI h S P) {B : Int} (hok : sOk B S) {i w : Int} : ft_C k_FT_hardware [.inr (.inr 0), .inl i, .inl w] h (fun r h' => r = some (.inr (.inl (qHw i w S))) ∧ h' = h) := by
  obtain ⟨e0, e1, e2, e3, e4⟩ := cc_eq hI
  have z2 : 0 ≤ h 5 2 ∧ h 5 2 ≤ 80 := hI.1.1.2.1
  have bad : (i < 0 ∨ ¬ (0 ≤ w ∧ w ≤ 2)) → ((some (.inr (.inl (-1))) : Option ftV) = some (.inr (.inl (qHw i w S))) ∧ h = h) := fun q => by unfold qHw; rw [if_pos q]; exact ⟨rfl, rfl⟩
  refine ft_enter (n := 0) rfl (Nat.le_of_ble_eq_true rfl) rfl (b_FT_hardware_0 ⟨fun c => bad (by omega), fun c => ⟨fun d => bad (by omega), fun d => ⟨fun e => ⟨fun f => ?_, fun f => ?_⟩, fun e => bad (by omega)⟩⟩⟩)
  · have g := pl_no e2 (i := i) (by omega) f
    unfold qHw qTell
    rw [if_neg (by omega), g]
    exact ⟨rfl, rfl⟩
  · have g := pl_at e2 (i := i) (by omega) (by omega)
    have hk := (hok.2.2.1.1.1 _ (List.mem_of_getElem? g)).1.1.1
    have e9 : qHw i w S = tellK (h (5 + 1) i.toNat, h (5 + 2) i.toNat) w := by
      unfold qHw qTell
      rw [if_neg (by omega), g]
    rw [e9, show ft_ln (5 + 1) = 80 from ft_ln_6]
    exact ⟨⟨⟨by omega, by omega⟩, hk⟩, rfl, rfl⟩
theorem d_FT_action {h : ftH} {S : ftS} {P : List ftS} (hI : ccI h S P) {B : Int} (hok : sOk B S) {x : Int} : ft_C k_FT_action [.inr (.inr 0), .inl x] h (fun r h' => r = some (.inl (actOf S.2.2.1 (pUn x))) ∧ h' = h) := by
  obtain ⟨e0, e1, e2, e3, e4⟩ := cc_eq hI
  obtain ⟨p1, p2, p3⟩ := cc_ps hI hok
  have z2 : 0 ≤ h 5 2 ∧ h 5 2 ≤ 80 := hI.1.1.2.1
  refine ft_enter (n := 1) rfl (Nat.le_of_ble_eq_true rfl) rfl (b_FT_action_0 ⟨_, d_PS_longest (a := 5) (shc_6_2 sh_1) p2, fun z h1 _ hw => ?_⟩)
  obtain ⟨rfl, r, hz, hlm, hr⟩ := hw
  cases hz
  rw [e2] at hlm
  refine ⟨fun c => ?_, fun c => ?_⟩
  · rcases lmatch_of hlm with ⟨rfl, -⟩ | ⟨p, q, rfl, hp, hm⟩
    · omega
    · refine ⟨⟨by omega, by omega⟩, ?_, rfl⟩
      have hp2 := pl_at e2 (i := (p : Int)) (by omega) (by omega)
      rw [Int.toNat_natCast, hp] at hp2
      cases hp2
      rw [Int.toNat_natCast]
      rw [actOf, hm]
  · rcases lmatch_of hlm with ⟨-, hm⟩ | ⟨p, q, rfl, hp, hm⟩
    · rw [actOf, hm]
      exact ⟨rfl, rfl⟩
    · omega
theorem d_FT_answerFor {h : ftH} {S : ftS} {P : List ftS} (hI : ccI h S P) {B : Int} (hok : sOk B S) {x : Int} : ft_C k_FT_answerFor [.inr (.inr 0), .inr (.inl x)] h (fun r h' => r = some (.inl (ansOf S.2.1 x)) ∧ h' = h) := by
  obtain ⟨e0, e1, e2, e3, e4⟩ := cc_eq hI
  obtain ⟨p1, p2, p3⟩ := cc_ps hI hok
  have z2 : 0 ≤ h 2 2 ∧ h 2 2 ≤ 60 := hI.1.1.1
  refine ft_enter (n := 1) rfl (Nat.le_of_ble_eq_true rfl) rfl (b_FT_answerFor_0 ⟨_, d_PS_longest (a := 2) (shc_6_1 sh_1) p1, fun z h1 _ hw => ?_⟩)
  obtain ⟨rfl, r, hz, hlm, hr⟩ := hw
  cases hz
  rw [e1] at hlm
  refine ⟨fun c => ?_, fun c => ?_⟩
  · rcases lmatch_of hlm with ⟨rfl, -⟩ | ⟨p, q, rfl, hp, hm⟩
    · omega
    · refine ⟨⟨by omega, by omega⟩, ?_, rfl⟩
      have hp2 := pl_at e1 (i := (p : Int)) (by omega) (by omega)
      rw [Int.toNat_natCast, hp] at hp2
      cases hp2
      rw [Int.toNat_natCast]
      rw [ansOf, hm]
  · rcases lmatch_of hlm with ⟨-, hm⟩ | ⟨p, q, rfl, hp, hm⟩
    · rw [ansOf, hm]
      exact ⟨rfl, rfl⟩
    · omega
theorem d_FT_answer {h : ftH} {S : ftS} {P : List ftS} (hI : ccI h S P) {B : Int} (hok : sOk B S) {x : Int} : ft_C k_FT_answer [.inr (.inr 0), .inl x] h (fun r h' => r = some (.inl (ansOf S.2.1 (pUn x))) ∧ h' = h) :=
  ft_enter (n := 0) rfl (Nat.le_of_ble_eq_true rfl) rfl (b_FT_answer_0 ⟨_, d_FT_answerFor hI hok, fun z h1 _ hw => hw⟩)
theorem d_FT_matching {h : ftH} {S : ftS} {P : List ftS} (hI : ccI h S P) {B : Int} (hok : sOk B S) {x : Int} : ft_C k_FT_matching [.inr (.inr 0), .inl x] h (fun r h' => h' = h ∧ ∃ z, isLm S.2.1 (pUn x) z ∧ r = some (.inl (if z < 0 then -2 else z))) := by
  obtain ⟨e0, e1, e2, e3, e4⟩ := cc_eq hI
  obtain ⟨p1, p2, p3⟩ := cc_ps hI hok
  refine ft_enter (n := 0) rfl (Nat.le_of_ble_eq_true rfl) rfl (b_FT_matching_0 ⟨_, d_PS_longest (a := 2) (shc_6_1 sh_1) p1, fun z h1 _ hw => ?_⟩)
  obtain ⟨rfl, r, hz, hlm, hr⟩ := hw
  cases hz
  rw [e1] at hlm
  exact ⟨rfl, _, hlm, rfl⟩
theorem d_FT_missed {h : ftH} {S : ftS} {P : List ftS} (hI : ccI h S P) {B : Int} (hok : sOk B S) : ft_C k_FT_missed [.inr (.inr 0)] h (fun r h' => r = some (.inl (missS S.2.2.1 S.2.2.2.1)) ∧ h' = h) := by
  obtain ⟨e0, e1, e2, e3, e4⟩ := cc_eq hI
  obtain ⟨p1, p2, p3⟩ := cc_ps hI hok
  refine ft_enter (n := 0) rfl (Nat.le_of_ble_eq_true rfl) rfl (b_FT_missed_0 ⟨_, c_TL_missedBy (a := 8) (b := 5) (shc_6_3 sh_1) (shc_6_2 sh_1) p3 p2, fun z h1 _ hw => ?_⟩)
  rw [e2, e3] at hw
  exact hw
theorem d_FT_count {h : ftH} {S : ftS} {P : List ftS} (hI : ccI h S P) {w : Int} : ft_C k_FT_count [.inr (.inr 0), .inl w] h (fun r h' => r = some (.inr (.inl (qCnt w S))) ∧ h' = h) := by
  obtain ⟨e0, e1, e2, e3, e4⟩ := cc_eq hI
  refine ft_enter (n := 0) rfl (Nat.le_of_ble_eq_true rfl) rfl (b_FT_count_0 ⟨fun c => ?_, fun c => ⟨fun d => ⟨⟨by omega, d⟩, ?_, rfl⟩, fun d => ?_⟩⟩)
  · unfold qCnt
    rw [if_neg (by omega)]
    exact ⟨rfl, rfl⟩
  · unfold qCnt
    rw [if_pos (by omega), ← e4]
    obtain ⟨k, rfl⟩ := Int.eq_ofNat_of_zero_le (show 0 ≤ w by omega)
    have hk : k < 5 := by omega
    match k, hk with
    | 0, _ => rfl
    | 1, _ => rfl
    | 2, _ => rfl
    | 3, _ => rfl
    | 4, _ => rfl
  · unfold qCnt
    rw [if_neg (by omega)]
    exact ⟨rfl, rfl⟩
theorem hop_le {A : Int → Bool} {l : List (Int × Int)} (h : ∀ q ∈ l, 1 ≤ q.2 ∧ q.2 ≤ 999999) : 0 ≤ (l.map fun q => if A q.1 = true then q.2 else 0).sum ∧ (l.map fun q => if A q.1 = true then q.2 else 0).sum ≤ 999999 * (l.length : Int) := by
  induction l with
  | nil => simp
  | cons q l ih =>
    have h1 := ih (fun r hr => h r (List.mem_cons_of_mem _ hr))
    have h2 := h q List.mem_cons_self
    simp only [List.map_cons, List.sum_cons, List.length_cons]
    split <;> constructor <;> push_cast <;> omega
theorem v_FT_hopHits {h : ftH} {S : ftS} {P : List ftS} (hI : ccI h S P) {B : Int} (hok : sOk B S) {hop : Int} {R : Option ftV → ftH → Prop} (hk : R (some (.inl (S.2.2.2.1.map fun q => if ansOf S.2.1 q.1 = hop then q.2 else 0).sum)) h) :
    ∀ (m i : Nat), i + m = S.2.2.2.1.length → ft_V k_FT_hopHits 16 [some (.inr (.inr 0)), some (.inl hop), some (.inl ((S.2.2.2.1.take i).map fun q => if ansOf S.2.1 q.1 = hop then q.2 else 0).sum), some (.inl (i : Int))] [] h R := by
  obtain ⟨e0, e1, e2, e3, e4⟩ := cc_eq hI
  obtain ⟨l1, l2, l3⟩ := cc_len hI
  have hg := hok.2.2.2.1
  have bd : ∀ i, 0 ≤ ((S.2.2.2.1.take i).map fun q => if ansOf S.2.1 q.1 = hop then q.2 else 0).sum ∧ ((S.2.2.2.1.take i).map fun q => if ansOf S.2.1 q.1 = hop then q.2 else 0).sum ≤ 39999960 := fun i => by
    have h1 := hop_le (A := fun x => decide (ansOf S.2.1 x = hop)) (l := S.2.2.2.1.take i) (fun q hq => (hg.2 q (List.mem_of_mem_take hq)).2)
    simp only [decide_eq_true_eq] at h1
    have h2 := List.length_take_le i S.2.2.2.1
    have h3 := hg.1
    have h4 : (S.2.2.2.1.take i).length ≤ 40 := by rw [List.length_take]; omega
    omega
  intro m
  induction m with
  | zero =>
    intro i hi
    refine b_FT_hopHits_16 ⟨fun c => ?_, fun c => absurd (by omega) c⟩
    rw [List.take_of_length_le (by omega)]
    exact hk
  | succ m ih =>
    intro i hi
    have h4 := hg.1
    have hgi := pl_at e3 (i := (i : Int)) (by omega) (by omega)
    have hb : 1 ≤ h 10 (i : Int).toNat ∧ h 10 (i : Int).toNat ≤ 999999 := (hg.2 _ (List.mem_of_getElem? hgi)).2
    have ht := take_succ_get S.2.2.2.1 i _ hgi
    refine b_FT_hopHits_16 ⟨fun c => absurd c (by omega), fun c => ⟨⟨by omega, by omega⟩, _, d_FT_answerFor hI hok, fun z h1 _ hw => ?_⟩⟩
    obtain ⟨hz, rfl⟩ := hw
    cases hz
    have hi1 := ih (i + 1) (by omega)
    rw [ht, List.map_append, List.sum_append] at hi1
    simp only [List.map_cons, List.map_nil, List.sum_cons, List.sum_nil] at hi1
    rw [ft_add_eq (x := (i : Int)) ⟨by omega, by omega⟩]
    refine ⟨fun d => ?_, fun d => ⟨⟨by omega, by omega⟩, fun n4 e => ?_⟩⟩
    · rw [if_neg d, Int.add_zero, Int.add_zero] at hi1
      exact hi1
    · rw [if_pos d, Int.add_zero] at hi1
      have b1 := bd i
      rw [e, ft_add_eq ⟨by omega, by omega⟩]
      exact hi1
theorem d_FT_hopHits {h : ftH} {S : ftS} {P : List ftS} (hI : ccI h S P) {B : Int} (hok : sOk B S) {hop : Int} : ft_C k_FT_hopHits [.inr (.inr 0), .inl hop] h (fun r h' => r = some (.inl (qHop hop S)) ∧ h' = h) := by
  refine ft_enter (n := 2) rfl (Nat.le_of_ble_eq_true rfl) rfl (b_FT_hopHits_0 ⟨fun c => ?_, fun c => ⟨fun d => ?_, fun d => ?_⟩⟩)
  · unfold qHop
    rw [if_neg (by omega)]
    exact ⟨rfl, rfl⟩
  · exact v_FT_hopHits hI hok ⟨by unfold qHop; rw [if_pos (by omega)], rfl⟩ S.2.2.2.1.length 0 (by omega)
  · unfold qHop
    rw [if_neg (by omega)]
    exact ⟨rfl, rfl⟩
