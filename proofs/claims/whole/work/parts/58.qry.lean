/-! simple questions: the reference -/
theorem mc_eq {h : ftH} {S : ftS} {P : List ftS} (hI : mcI h S P) : h 310 3 = S.1 ∧ ft_ml h 310 10 (h 310 0).toNat = S.2.1 ∧ ft_ml h 310 270 (h 310 2).toNat = S.2.2.1 ∧ ft_gl h 310 190 (h 310 1).toNat = S.2.2.2.1 ∧ ft_mc h = S.2.2.2.2 := by
  have s := hI.1.2
  rw [ft_ma_0] at s
  exact ⟨congrArg (fun s : ftS => s.1) s, congrArg (fun s : ftS => s.2.1) s, congrArg (fun s : ftS => s.2.2.1) s, congrArg (fun s : ftS => s.2.2.2.1) s, congrArg (fun s : ftS => s.2.2.2.2) s⟩
theorem mc_len {h : ftH} {S : ftS} {P : List ftS} (hI : mcI h S P) : (S.2.1.length : Int) = h 310 0 ∧ (S.2.2.1.length : Int) = h 310 2 ∧ (S.2.2.2.1.length : Int) = h 310 1 := by
  obtain ⟨e0, e1, e2, e3, e4⟩ := mc_eq hI
  obtain ⟨z1, z2, z3, -⟩ := ft_mz_0.mp hI.1.1
  refine ⟨by rw [← e1, ft_ml_len]; omega, by rw [← e2, ft_ml_len]; omega, by rw [← e3, ft_gl_len]; omega⟩
theorem ml_at {h : ftH} {o n : Nat} {L : List (Int × Int)} (e : ft_ml h 310 o n = L) {i : Nat} (hi : i < n) : L[i]? = some (64 * pUn (h 310 (o + 3 * i)) + h 310 (o + 3 * i + 1), h 310 (o + 3 * i + 2)) := by
  rw [← e]
  exact ft_ml_get hi
theorem gl_at {h : ftH} {o n : Nat} {L : List (Int × Int)} (e : ft_gl h 310 o n = L) {i : Nat} (hi : i < n) : L[i]? = some (pUn (h 310 (o + 2 * i)), h 310 (o + 2 * i + 1)) := by
  rw [← e]
  exact ft_gl_get hi
theorem d_Mo_capacity {h : ftH} {S : ftS} {P : List ftS} (hI : mcI h S P) : ft_C k_Mo_capacity [.inr (.inr 309)] h (fun r h' => r = some (.inl S.1) ∧ h' = h) :=
  ft_enter (n := 0) rfl (Nat.le_of_ble_eq_true rfl) rfl (b_Mo_capacity_0 ⟨by rw [(mc_eq hI).1], rfl⟩)
theorem d_Mo_routes {h : ftH} {S : ftS} {P : List ftS} (hI : mcI h S P) : ft_C k_Mo_routes [.inr (.inr 309)] h (fun r h' => r = some (.inl (S.2.1.length : Int)) ∧ h' = h) :=
  ft_enter (n := 0) rfl (Nat.le_of_ble_eq_true rfl) rfl (b_Mo_routes_0 ⟨by rw [(mc_len hI).1], rfl⟩)
theorem d_Mo_logged {h : ftH} {S : ftS} {P : List ftS} (hI : mcI h S P) : ft_C k_Mo_logged [.inr (.inr 309)] h (fun r h' => r = some (.inl (S.2.2.2.1.length : Int)) ∧ h' = h) :=
  ft_enter (n := 0) rfl (Nat.le_of_ble_eq_true rfl) rfl (b_Mo_logged_0 ⟨by rw [(mc_len hI).2.2], rfl⟩)
theorem d_Mo_hardwareSize {h : ftH} {S : ftS} {P : List ftS} (hI : mcI h S P) : ft_C k_Mo_hardwareSize [.inr (.inr 309)] h (fun r h' => r = some (.inl (S.2.2.1.length : Int)) ∧ h' = h) :=
  ft_enter (n := 0) rfl (Nat.le_of_ble_eq_true rfl) rfl (b_Mo_hardwareSize_0 ⟨by rw [(mc_len hI).2.1], rfl⟩)
theorem d_Mo_log {h : ftH} {S : ftS} {P : List ftS} (hI : mcI h S P) {i w : Int} : ft_C k_Mo_log [.inr (.inr 309), .inl i, .inl w] h (fun r h' => r = some (.inr (.inl (qLog i w S))) ∧ h' = h) := by
  obtain ⟨e0, e1, e2, e3, e4⟩ := mc_eq hI
  have hl := (mc_len hI).2.2
  have z3 := (ft_mz_0.mp hI.1.1).2.2.1
  have bad : (i < 0 ∨ ¬ (0 ≤ w ∧ w ≤ 1)) → ((some (.inr (.inl (-1))) : Option ftV) = some (.inr (.inl (qLog i w S))) ∧ h = h) := fun q => by unfold qLog; rw [if_pos q]; exact ⟨rfl, rfl⟩
  refine ft_enter (n := 0) rfl (Nat.le_of_ble_eq_true rfl) rfl (b_Mo_log_0 ⟨fun c => bad (by omega), fun c => ⟨fun e => ⟨fun f => ?_, fun f => ?_⟩, fun e => bad (by omega)⟩⟩)
  · have g := gl_at e3 (i := i.toNat) (by omega)
    unfold qLog
    rw [if_neg (by omega), g, show 191 + 2 * i.toNat = 190 + 2 * i.toNat + 1 by omega]
    exact ⟨fun q => ⟨⟨by omega, by omega⟩, by simp only; rw [if_neg q], rfl⟩, fun q => ⟨⟨by omega, by omega⟩, by simp only; rw [if_pos q], rfl⟩⟩
  · have g : S.2.2.2.1[i.toNat]? = none := List.getElem?_eq_none (by omega)
    unfold qLog
    rw [if_neg (by omega), g]
    exact ⟨rfl, rfl⟩
theorem tellK_ml {v l x : Int} (hl : 0 ≤ l ∧ l ≤ 32) (w : Int) : tellK (64 * pUn v + l, x) w = if w = 0 then pUn v else if w = 1 then l else x := by
  unfold tellK
  simp only
  rw [show (64 * pUn v + l) / 64 = pUn v by omega, show (64 * pUn v + l) % 64 = l by omega]
theorem d_Mo_hardware {o : Nat} (ho : o = 270) {h : ftH} {S : ftS} {P : List ftS} (hI : mcI h S P) {i w : Int} : ft_C k_Mo_hardware [.inr (.inr 309), .inl i, .inl w] h (fun r h' => r = some (.inr (.inl (qHw i w S))) ∧ h' = h) := by
  obtain ⟨e0, e1, e2, e3, e4⟩ := mc_eq hI
  have hl := (mc_len hI).2.1
  obtain ⟨z1, z2, z3, z4, z5⟩ := ft_mz_0.mp hI.1.1
  rw [← ho] at e2 z5
  have bad : (i < 0 ∨ ¬ (0 ≤ w ∧ w ≤ 2)) → ((some (.inr (.inl (-1))) : Option ftV) = some (.inr (.inl (qHw i w S))) ∧ h = h) := fun q => by unfold qHw; rw [if_pos q]; exact ⟨rfl, rfl⟩
  refine ft_enter (n := 0) rfl (Nat.le_of_ble_eq_true rfl) rfl (b_Mo_hardware_0 ⟨fun c => bad (by omega), fun c => ⟨fun e => ⟨fun f => ?_, fun f => ?_⟩, fun e => bad (by omega)⟩⟩)
  · have g := ml_at e2 (i := i.toNat) (by omega)
    have e9 : qHw i w S = if w = 0 then pUn (h 310 (o + 3 * i.toNat)) else if w = 1 then h 310 (o + 3 * i.toNat + 1) else h 310 (o + 3 * i.toNat + 2) := by
      rw [← tellK_ml (z5 i.toNat (by omega)) w]
      unfold qHw qTell
      rw [if_neg (by omega), g]
    rw [e9, show 270 + 3 * i.toNat = o + 3 * i.toNat by omega, show 271 + 3 * i.toNat = o + 3 * i.toNat + 1 by omega, show 272 + 3 * i.toNat = o + 3 * i.toNat + 2 by omega]
    exact ⟨fun q => ⟨fun q1 => ⟨⟨by omega, by omega⟩, by rw [if_neg q, if_neg q1], rfl⟩, fun q1 => ⟨⟨by omega, by omega⟩, by rw [if_neg q, if_pos q1], rfl⟩⟩, fun q => ⟨⟨by omega, by omega⟩, by rw [if_pos q], rfl⟩⟩
  · have g : S.2.2.1[i.toNat]? = none := List.getElem?_eq_none (by omega)
    unfold qHw qTell
    rw [if_neg (by omega), g]
    exact ⟨rfl, rfl⟩
theorem d_Mo_action {h : ftH} {S : ftS} {P : List ftS} (hI : mcI h S P) {B : Int} (hok : sOk B S) {x : Int} : ft_C k_Mo_action [.inr (.inr 309), .inl x] h (fun r h' => r = some (.inl (actOf S.2.2.1 (pUn x))) ∧ h' = h) := by
  obtain ⟨e0, e1, e2, e3, e4⟩ := mc_eq hI
  obtain ⟨z1, z2, z3, z4, z5⟩ := ft_mz_0.mp hI.1.1
  refine ft_enter (n := 0) rfl (Nat.le_of_ble_eq_true rfl) rfl (b_Mo_action_0 ⟨_, c_Mo_actionFor (o := 270) rfl (n := (h 310 2).toNat) (by omega) (by omega) (fun k hk => z5 k (by omega)) (by rw [e2]; exact hok.2.2.1.1), fun z h1 _ hw => ?_⟩)
  rw [e2] at hw
  exact hw
theorem d_Mo_matches {o : Nat} (ho : o = 10) {h : ftH} {S : ftS} {P : List ftS} (hI : mcI h S P) {B : Int} (hok : sOk B S) {x : Int} : ft_C k_Mo_matches [.inr (.inr 309), .inl x] h (fun r h' => h' = h ∧ ∃ z, isLm S.2.1 (pUn x) z ∧ r = some (.inl (if z < 0 then -2 else z)) ∧ z < S.2.1.length) := by
  obtain ⟨e0, e1, e2, e3, e4⟩ := mc_eq hI
  have hl := (mc_len hI).1
  obtain ⟨z1, z2, z3, z4, z5⟩ := ft_mz_0.mp hI.1.1
  rw [← ho] at e1 z4
  refine ft_enter (n := 0) rfl (Nat.le_of_ble_eq_true rfl) rfl (b_Mo_matches_0 ?_)
  rw [show h 310 0 = (((h 310 0).toNat : Nat) : Int) by omega, show (10 : Int) = ((o : Nat) : Int) by omega]
  refine ⟨_, c_Mo_longest (o := o) (n := (h 310 0).toNat) (by omega) (fun k hk => z4 k (by omega)), fun z h1 _ hw => ?_⟩
  obtain ⟨rfl, r, hz, hlg⟩ := hw
  cases hz
  rw [e1] at hlg
  refine ⟨rfl, _, isLg_isLm hok.2.1.1 hlg, ?_, ?_⟩
  · rcases hlg with ⟨rfl, -⟩ | ⟨p, q, rfl, -⟩
    · rfl
    · rw [if_neg (by omega), if_neg (by omega)]
  · rcases hlg with ⟨rfl, -⟩ | ⟨p, q, rfl, hp, -⟩
    · rw [if_pos (by omega)]; omega
    · have := (List.getElem?_eq_some_iff.mp hp).1
      rw [if_neg (by omega)]; omega
theorem d_Mo_matching {h : ftH} {S : ftS} {P : List ftS} (hI : mcI h S P) {B : Int} (hok : sOk B S) {x : Int} : ft_C k_Mo_matching [.inr (.inr 309), .inl x] h (fun r h' => h' = h ∧ ∃ z, isLm S.2.1 (pUn x) z ∧ r = some (.inl (if z < 0 then -2 else z))) :=
  ft_enter (n := 0) rfl (Nat.le_of_ble_eq_true rfl) rfl (b_Mo_matching_0 ⟨_, d_Mo_matches rfl hI hok, fun z h1 _ hw => ⟨hw.1, hw.2.choose, hw.2.choose_spec.1, hw.2.choose_spec.2.1⟩⟩)
theorem d_Mo_answers {o : Nat} (ho : o = 10) {h : ftH} {S : ftS} {P : List ftS} (hI : mcI h S P) {B : Int} (hok : sOk B S) {x : Int} : ft_C k_Mo_answers [.inr (.inr 309), .inl x] h (fun r h' => r = some (.inl (ansOf S.2.1 (pUn x))) ∧ h' = h) := by
  obtain ⟨e0, e1, e2, e3, e4⟩ := mc_eq hI
  have hl := (mc_len hI).1
  obtain ⟨z1, z2, z3, z4, z5⟩ := ft_mz_0.mp hI.1.1
  rw [← ho] at e1
  refine ft_enter (n := 1) rfl (Nat.le_of_ble_eq_true rfl) rfl (b_Mo_answers_0 ⟨_, d_Mo_matches rfl hI hok, fun z h1 _ hw => ?_⟩)
  obtain ⟨rfl, r, hlm, hz, hlt⟩ := hw
  cases hz
  refine ⟨fun c => ?_, fun c => ?_⟩
  · rcases lmatch_of hlm with ⟨rfl, -⟩ | ⟨p, q, rfl, hp, hm⟩
    · rw [if_pos (by omega)] at c
      omega
    · rw [if_neg (by omega)]
      refine ⟨⟨by omega, by omega⟩, ?_, rfl⟩
      have hp2 := ml_at e1 (i := p) (by omega)
      rw [hp] at hp2
      cases hp2
      rw [ansOf, hm, Int.toNat_natCast, show 12 + 3 * p = o + 3 * p + 2 by omega]
  · rcases lmatch_of hlm with ⟨-, hm⟩ | ⟨p, q, rfl, hp, hm⟩
    · rw [ansOf, hm]
      exact ⟨rfl, rfl⟩
    · rw [if_neg (by omega)] at c
      omega
theorem d_Mo_answer {h : ftH} {S : ftS} {P : List ftS} (hI : mcI h S P) {B : Int} (hok : sOk B S) {x : Int} : ft_C k_Mo_answer [.inr (.inr 309), .inl x] h (fun r h' => r = some (.inl (ansOf S.2.1 (pUn x))) ∧ h' = h) :=
  ft_enter (n := 0) rfl (Nat.le_of_ble_eq_true rfl) rfl (b_Mo_answer_0 ⟨_, d_Mo_answers rfl hI hok, fun z h1 _ hw => hw⟩)
theorem d_Mo_count {h : ftH} {S : ftS} {P : List ftS} (hI : mcI h S P) {w : Int} : ft_C k_Mo_count [.inr (.inr 309), .inl w] h (fun r h' => r = some (.inr (.inl (qCnt w S))) ∧ h' = h) := by
  obtain ⟨e0, e1, e2, e3, e4⟩ := mc_eq hI
  refine ft_enter (n := 0) rfl (Nat.le_of_ble_eq_true rfl) rfl (b_Mo_count_0 ⟨fun c => ?_, fun c => ?_⟩)
  · unfold qCnt
    rw [if_neg c]
    exact ⟨rfl, rfl⟩
  · rw [ft_add_eq ⟨by omega, by omega⟩]
    refine ⟨⟨by omega, by omega⟩, ?_, rfl⟩
    unfold qCnt
    rw [if_pos c, ← e4]
    obtain ⟨k, rfl⟩ := Int.eq_ofNat_of_zero_le c.1
    have hk : k < 5 := by omega
    match k, hk with
    | 0, _ => rfl
    | 1, _ => rfl
    | 2, _ => rfl
    | 3, _ => rfl
    | 4, _ => rfl
theorem v_Mo_hopHits {o : Nat} (ho : o = 190) {h : ftH} {S : ftS} {P : List ftS} (hI : mcI h S P) {B : Int} (hok : sOk B S) {hop : Int} {R : Option ftV → ftH → Prop} (hk : R (some (.inl (S.2.2.2.1.map fun q => if ansOf S.2.1 q.1 = hop then q.2 else 0).sum)) h) :
    ∀ (m i : Nat), i + m = S.2.2.2.1.length → ft_V k_Mo_hopHits 18 [some (.inr (.inr 309)), some (.inl hop), some (.inl ((S.2.2.2.1.take i).map fun q => if ansOf S.2.1 q.1 = hop then q.2 else 0).sum), some (.inl (i : Int))] [] h R := by
  obtain ⟨e0, e1, e2, e3, e4⟩ := mc_eq hI
  obtain ⟨l1, l2, l3⟩ := mc_len hI
  rw [← ho] at e3
  have hg := hok.2.2.2.1
  have bd : ∀ i, 0 ≤ ((S.2.2.2.1.take i).map fun q => if ansOf S.2.1 q.1 = hop then q.2 else 0).sum ∧ ((S.2.2.2.1.take i).map fun q => if ansOf S.2.1 q.1 = hop then q.2 else 0).sum ≤ 39999960 := fun i => by
    have h1 := hop_le (A := fun x => decide (ansOf S.2.1 x = hop)) (l := S.2.2.2.1.take i) (fun q hq => (hg.2 q (List.mem_of_mem_take hq)).2)
    simp only [decide_eq_true_eq] at h1
    have h2 := List.length_take_le i S.2.2.2.1
    have h3 := hg.1
    have h4 : (S.2.2.2.1.take i).length ≤ 40 := by rw [List.length_take]; omega
    omega
  intro m
  induction m with
  | zero =>
    intro i hi
    refine b_Mo_hopHits_18 ⟨fun c => ?_, fun c => absurd (by omega) c⟩
    rw [List.take_of_length_le (by omega)]
    exact hk
  | succ m ih =>
    intro i hi
    have h4 := hg.1
    have hgi := gl_at e3 (i := i) (by omega)
    have hb : 1 ≤ h 310 (o + 2 * i + 1) ∧ h 310 (o + 2 * i + 1) ≤ 999999 := (hg.2 _ (List.mem_of_getElem? hgi)).2
    have ht := take_succ_get S.2.2.2.1 i _ hgi
    refine b_Mo_hopHits_18 ⟨fun c => absurd c (by omega), fun c => ⟨⟨by omega, by omega⟩, _, d_Mo_answers rfl hI hok, fun z h1 _ hw => ?_⟩⟩
    obtain ⟨hz, rfl⟩ := hw
    cases hz
    have hi1 := ih (i + 1) (by omega)
    rw [ht, List.map_append, List.sum_append] at hi1
    simp only [List.map_cons, List.map_nil, List.sum_cons, List.sum_nil] at hi1
    rw [ft_add_eq (x := (i : Int)) ⟨by omega, by omega⟩, Int.toNat_natCast, show 190 + 2 * i = o + 2 * i by omega, show 191 + 2 * i = o + 2 * i + 1 by omega]
    refine ⟨fun d => ?_, fun d => ⟨⟨by omega, by omega⟩, fun n4 e => ?_⟩⟩
    · rw [if_neg d, Int.add_zero, Int.add_zero] at hi1
      exact hi1
    · rw [if_pos d, Int.add_zero] at hi1
      have b1 := bd i
      rw [e, ft_add_eq ⟨by omega, by omega⟩]
      exact hi1
theorem d_Mo_hopHits {h : ftH} {S : ftS} {P : List ftS} (hI : mcI h S P) {B : Int} (hok : sOk B S) {hop : Int} : ft_C k_Mo_hopHits [.inr (.inr 309), .inl hop] h (fun r h' => r = some (.inl (qHop hop S)) ∧ h' = h) := by
  refine ft_enter (n := 2) rfl (Nat.le_of_ble_eq_true rfl) rfl (b_Mo_hopHits_0 ⟨fun c => ?_, fun c => ?_⟩)
  · exact v_Mo_hopHits rfl hI hok ⟨by unfold qHop; rw [if_pos c], rfl⟩ S.2.2.2.1.length 0 (by omega)
  · unfold qHop
    rw [if_neg c]
    exact ⟨rfl, rfl⟩
theorem v_Mo_missedNow {o : Nat} (ho : o = 190) {h : ftH} {S : ftS} {P : List ftS} (hI : mcI h S P) {B : Int} (hok : sOk B S) {R : Option ftV → ftH → Prop} (hk : R (some (.inl (missS S.2.2.1 S.2.2.2.1))) h) :
    ∀ (m i : Nat), i + m = S.2.2.2.1.length → ft_V k_Mo_missedNow 4 [some (.inr (.inr 309)), some (.inl (missS S.2.2.1 (S.2.2.2.1.take i))), some (.inl (i : Int))] [] h R := by
  obtain ⟨e0, e1, e2, e3, e4⟩ := mc_eq hI
  obtain ⟨l1, l2, l3⟩ := mc_len hI
  obtain ⟨z1, z2, z3, z4, z5⟩ := ft_mz_0.mp hI.1.1
  rw [← ho] at e3
  have hg := hok.2.2.2.1
  intro m
  induction m with
  | zero =>
    intro i hi
    refine b_Mo_missedNow_4 ⟨fun c => ?_, fun c => absurd (by omega) c⟩
    rw [List.take_of_length_le (by omega)]
    exact hk
  | succ m ih =>
    intro i hi
    have h4 := hg.1
    have hgi := gl_at e3 (i := i) (by omega)
    have hb : 1 ≤ h 310 (o + 2 * i + 1) ∧ h 310 (o + 2 * i + 1) ≤ 999999 := (hg.2 _ (List.mem_of_getElem? hgi)).2
    have ht := take_succ_get S.2.2.2.1 i _ hgi
    have b1 := missS_le (hw := S.2.2.1) (l := S.2.2.2.1.take i) (fun q hq => (hg.2 q (List.mem_of_mem_take hq)).2)
    have h5 : (S.2.2.2.1.take i).length ≤ 40 := by rw [List.length_take]; omega
    refine b_Mo_missedNow_4 ⟨fun c => absurd c (by omega), fun c => ⟨⟨by omega, by omega⟩, _, c_Mo_isHard (o := 270) rfl (n := (h 310 2).toNat) (by omega) (by omega) (fun k hk => z5 k (by omega)) (by rw [e2]; exact hok.2.2.1.1), fun z h1 _ hw => ?_⟩⟩
    obtain ⟨hz, rfl⟩ := hw
    cases hz
    have hi1 := ih (i + 1) (by omega)
    rw [ht, missS_snoc] at hi1
    simp only at hi1
    rw [ft_add_eq (x := (i : Int)) ⟨by omega, by omega⟩, Int.toNat_natCast, show 190 + 2 * i = o + 2 * i by omega, show 191 + 2 * i = o + 2 * i + 1 by omega, e2]
    refine ⟨fun d => ?_, fun d => ⟨⟨by omega, by omega⟩, fun n4 e => ?_⟩⟩
    · rw [if_pos (ft_if1.mp d), Int.add_zero] at hi1
      exact hi1
    · rw [if_neg (ft_if0.mp d)] at hi1
      rw [e, ft_add_eq ⟨by omega, by omega⟩]
      exact hi1
theorem d_Mo_missedNow {h : ftH} {S : ftS} {P : List ftS} (hI : mcI h S P) {B : Int} (hok : sOk B S) : ft_C k_Mo_missedNow [.inr (.inr 309)] h (fun r h' => r = some (.inl (missS S.2.2.1 S.2.2.2.1)) ∧ h' = h) :=
  ft_enter (n := 2) rfl (Nat.le_of_ble_eq_true rfl) rfl (b_Mo_missedNow_0 (v_Mo_missedNow rfl hI hok ⟨rfl, rfl⟩ S.2.2.2.1.length 0 (by omega)))
theorem d_Mo_missed {h : ftH} {S : ftS} {P : List ftS} (hI : mcI h S P) {B : Int} (hok : sOk B S) : ft_C k_Mo_missed [.inr (.inr 309)] h (fun r h' => r = some (.inl (missS S.2.2.1 S.2.2.2.1)) ∧ h' = h) :=
  ft_enter (n := 0) rfl (Nat.le_of_ble_eq_true rfl) rfl (b_Mo_missed_0 ⟨_, d_Mo_missedNow hI hok, fun z h1 _ hw => hw⟩)
