/-! THE CLASS'S QUESTIONS OVER ENTRIES, CHOICE AND TARGET -/
theorem d_FT_compressed {h : ftH} {S : ftS} {P : List ftS} (hI : ccI h S P) {B : Int} (hok : sOk B S) (hc : csI h S) : ft_C k_FT_compressed [.inr (.inr 0)] h (fun r h' => r = some (.inl ((eOf S).length : Int)) ∧ sFr h h' ∧ csI h' S) := by
  refine ft_enter (n := 0) rfl (Nat.le_of_ble_eq_true rfl) rfl (b_FT_compressed_0 ⟨_, c_FT_settle hI hok hc ⟨by omega, by omega⟩, fun h1 hw => ?_⟩)
  obtain ⟨-, ⟨u1, u2⟩, u3⟩ := hw
  have l2 := u2.2.2.1 u3
  exact ⟨by rw [(setI_of l2.1.1 l2.1.2).1], u1, u2⟩
theorem d_FT_entry {h : ftH} {S : ftS} {P : List ftS} (hI : ccI h S P) {B : Int} (hok : sOk B S) (hc : csI h S) {i w : Int} : ft_C k_FT_entry [.inr (.inr 0), .inl i, .inl w] h (fun r h' => r = some (.inr (.inl (qEnt i w S))) ∧ sFr h h' ∧ csI h' S) := by
  have hEo := eOf_ok hok
  have l134 := (ft_ln_ps s_133).2.1
  have bad : (i < 0 ∨ ¬ (0 ≤ w ∧ w ≤ 5)) → ((some (.inr (.inl (-1))) : Option ftV) = some (.inr (.inl (qEnt i w S))) ∧ sFr h h ∧ csI h S) := fun q => by unfold qEnt; rw [if_pos q]; exact ⟨rfl, sFr_rfl h, hc⟩
  have tail : ∀ h1 : ftH, 0 ≤ i → 0 ≤ w → w ≤ 5 → lv2 h1 S → (4 ≤ w → lv3 h1 S) → (sFr h h1 ∧ csI h1 S) → ∀ R : Option ftV → ftH → Prop, R = (fun r h' => r = some (.inr (.inl (qEnt i w S))) ∧ sFr h h' ∧ csI h' S) → ((i < h1 133 2 → ((3 ≤ w → ((¬ (w = 3) → ((¬ (w = 4) → (((0 ≤ i ∧ i < 60) ∧ 0 ≤ h1 143 3) ∧ ((¬ (h1 143 3 / 2 ^ (59 - i.toNat) % 2 = 1) → R (some (.inr (.inl 0))) h1) ∧ (h1 143 3 / 2 ^ (59 - i.toNat) % 2 = 1 → R (some (.inr (.inl 1))) h1)))) ∧ (w = 4 → ((0 ≤ i ∧ i < 60) ∧ R (some (.inr (.inl (h1 144 i.toNat)))) h1)))) ∧ (w = 3 → ((0 ≤ i ∧ i < 60) ∧ R (some (.inr (.inl ((if (h1 138 i.toNat) < 0 then (-2) else (h1 138 i.toNat)))))) h1)))) ∧ (¬ (3 ≤ w) → (((0 ≤ i ∧ i < ft_ln (133 + 1)) ∧ 0 ≤ h1 (133 + 1) i.toNat) ∧ R (some (.inr (.inl ((if w = 0 then h1 (133 + 1) i.toNat / 64 else if w = 1 then h1 (133 + 1) i.toNat % 64 else h1 (133 + 2) i.toNat))))) h1)))) ∧ (¬ (i < h1 133 2) → R (some (.inr (.inl ((-2))))) h1)) := by
    intro h1 i0 w0 w5 l2 l3 fin R hR
    have hS := setI_of l2.1.1 l2.1.2
    have hlen := hS.1
    subst hR
    refine ⟨fun c => ⟨fun c3 => ⟨fun n3 => ⟨fun n4 => ?_, fun e4 => ?_⟩, fun e3 => ?_⟩, fun c3 => ?_⟩, fun c => ?_⟩
    · have hb : h1 143 3 = (bB S : Int) := (l3 (by omega)).2.2.2.1
      rw [hb]
      have hw5 : w = 5 := by omega
      refine ⟨⟨⟨by omega, by omega⟩, by omega⟩, fun q => ?_, fun q => ?_⟩
      · rw [bit_div] at q
        unfold qEnt
        rw [if_neg (by omega), if_neg (by omega), if_neg (by omega), if_neg (by omega), if_pos hw5, if_neg q]
        exact ⟨rfl, fin⟩
      · rw [bit_div] at q
        unfold qEnt
        rw [if_neg (by omega), if_neg (by omega), if_neg (by omega), if_neg (by omega), if_pos hw5, if_pos q]
        exact ⟨rfl, fin⟩
    · have hd := (l3 (by omega)).1 i.toNat (by omega)
      unfold qEnt
      rw [if_neg (by omega), if_neg (by omega), if_neg (by omega), if_pos e4, hd]
      exact ⟨⟨by omega, by omega⟩, rfl, fin⟩
    · have hd : h1 138 i.toNat = parI (eOf S) i.toNat := (l2.2.1 i.toNat (by omega)).1
      unfold qEnt
      rw [if_neg (by omega), if_neg (by omega), if_pos e3, hd]
      exact ⟨⟨by omega, by omega⟩, rfl, fin⟩
    · have g2 := pl_at l2.1.2 (i := i) (by omega) (by omega)
      have hk := (hEo.1.1 _ (List.mem_of_getElem? g2)).1.1.1
      unfold qEnt qTell
      rw [if_neg (by omega), if_neg (by omega), if_neg (by omega), if_neg (by omega), if_neg (by omega), g2]
      exact ⟨⟨⟨by omega, by omega⟩, hk⟩, rfl, fin⟩
    · unfold qEnt
      rw [if_neg (by omega), if_pos (by omega)]
      exact ⟨rfl, fin⟩
  refine ft_enter (n := 0) rfl (Nat.le_of_ble_eq_true rfl) rfl (b_FT_entry_0 ⟨fun c => bad (by omega), fun c => ⟨fun d => bad (by omega), fun d => ⟨fun f => ⟨fun g => ⟨_, c_FT_settle hI hok hc ⟨by omega, by omega⟩, fun h1 hw => ?_⟩, fun g => ⟨_, c_FT_settle hI hok hc ⟨by omega, by omega⟩, fun h1 hw => ?_⟩⟩, fun f => bad (by omega)⟩⟩⟩)
  · obtain ⟨-, ⟨u1, u2⟩, u3⟩ := hw
    exact tail h1 (by omega) (by omega) f (u2.2.2.1 (by omega)) (fun _ => u2.2.2.2.1 u3) ⟨u1, u2⟩ _ rfl
  · obtain ⟨-, ⟨u1, u2⟩, u3⟩ := hw
    exact tail h1 (by omega) (by omega) f (u2.2.2.1 u3) (fun q => absurd q g) ⟨u1, u2⟩ _ rfl
theorem d_FT_busiest {h : ftH} {S : ftS} {P : List ftS} (hI : ccI h S P) {B : Int} (hok : sOk B S) (hc : csI h S) : ft_C k_FT_busiest [.inr (.inr 0)] h (fun r h' => r = some (.inl (bz (hOf S) (eOf S).length)) ∧ sFr h h' ∧ csI h' S) := by
  have hEo := eOf_ok hok
  refine ft_enter (n := 3) rfl (Nat.le_of_ble_eq_true rfl) rfl (b_FT_busiest_0 ⟨_, c_FT_settle hI hok hc ⟨by omega, by omega⟩, fun h1 hw n3 e3 => ?_⟩)
  obtain ⟨-, fin, u3⟩ := hw
  have l3 := fin.2.2.2.2.1 u3
  have l2 := fin.2.2.2.1 (by omega)
  have hlen := (setI_of l2.1.1 l2.1.2).1
  rw [e3]
  have loop : ∀ m i : Nat, i + m = (eOf S).length → ft_V k_FT_busiest 12 [some (.inr (.inr 0)), some (.inl (bz (hOf S) i)), some (.inl (if bz (hOf S) i < 0 then 0 else hOf S (bz (hOf S) i).toNat)), some (.inl (i : Int))] [] h1 (fun r h' => r = some (.inl (bz (hOf S) (eOf S).length)) ∧ sFr h h' ∧ csI h' S) := by
    intro m
    induction m with
    | zero =>
      intro i hm
      exact b_FT_busiest_12 ⟨fun _ => ⟨by rw [show i = (eOf S).length by omega], fin⟩, fun c => absurd (by rw [hlen]; omega) c⟩
    | succ m ih =>
      intro i hm
      have hd := l3.1 i (by omega)
      have hi := ih (i + 1) (by omega)
      rw [bz] at hi
      refine b_FT_busiest_12 ⟨fun c => absurd c (by rw [hlen]; omega), fun _ => ?_⟩
      rw [Int.toNat_natCast, hd, inc1 (by omega)]
      refine ⟨⟨by omega, by omega⟩, fun c => ?_, fun c => ⟨⟨by omega, by omega⟩, fun n1 k1 => ?_⟩⟩
      · rw [if_neg (show ¬ (if bz (hOf S) i < 0 then 0 else hOf S (bz (hOf S) i).toNat) < hOf S i from Int.not_lt.mpr c)] at hi
        exact hi
      · rw [if_pos (show (if bz (hOf S) i < 0 then 0 else hOf S (bz (hOf S) i).toNat) < hOf S i from Int.not_le.mp c), if_neg (by omega), Int.toNat_natCast] at hi
        rw [k1]
        exact hi
  exact loop (eOf S).length 0 (by omega)
theorem d_FT_coldest {h : ftH} {S : ftS} {P : List ftS} (hI : ccI h S P) {B : Int} (hok : sOk B S) (hc : csI h S) : ft_C k_FT_coldest [.inr (.inr 0)] h (fun r h' => r = some (.inl (cz (hOf S) (bB S) (eOf S).length)) ∧ sFr h h' ∧ csI h' S) := by
  have hEo := eOf_ok hok
  refine ft_enter (n := 3) rfl (Nat.le_of_ble_eq_true rfl) rfl (b_FT_coldest_0 ⟨_, c_FT_settle hI hok hc ⟨by omega, by omega⟩, fun h1 hw n3 e3 => ?_⟩)
  obtain ⟨-, fin, u3⟩ := hw
  have l3 := fin.2.2.2.2.1 u3
  have l2 := fin.2.2.2.1 (by omega)
  have hlen := (setI_of l2.1.1 l2.1.2).1
  have hb : h1 143 3 = (bB S : Int) := l3.2.2.2.1
  rw [e3]
  have loop : ∀ m i : Nat, i + m = (eOf S).length → ft_V k_FT_coldest 12 [some (.inr (.inr 0)), some (.inl (cz (hOf S) (bB S) i)), some (.inl (if cz (hOf S) (bB S) i < 0 then 0 else hOf S (cz (hOf S) (bB S) i).toNat)), some (.inl (i : Int))] [] h1 (fun r h' => r = some (.inl (cz (hOf S) (bB S) (eOf S).length)) ∧ sFr h h' ∧ csI h' S) := by
    intro m
    induction m with
    | zero =>
      intro i hm
      exact b_FT_coldest_12 ⟨fun _ => ⟨by rw [show i = (eOf S).length by omega], fin⟩, fun c => absurd (by rw [hlen]; omega) c⟩
    | succ m ih =>
      intro i hm
      have hd := l3.1 i (by omega)
      have hi := ih (i + 1) (by omega)
      rw [cz] at hi
      refine b_FT_coldest_12 ⟨fun c => absurd c (by rw [hlen]; omega), fun _ => ?_⟩
      rw [Int.toNat_natCast, hd, inc1 (by omega), hb]
      have put : ((bB S).testBit (59 - i) = true ∧ (cz (hOf S) (bB S) i < 0 ∨ hOf S i < hOf S (cz (hOf S) (bB S) i).toNat)) → ∀ n1 : Int, n1 = hOf S i → ft_V k_FT_coldest 12 [some (.inr (.inr 0)), some (.inl (i : Int)), some (.inl n1), some (.inl ((i + 1 : Nat) : Int))] [] h1 (fun r h' => r = some (.inl (cz (hOf S) (bB S) (eOf S).length)) ∧ sFr h h' ∧ csI h' S) := fun q n1 k1 => by
        rw [if_pos q, if_neg (by omega), Int.toNat_natCast] at hi
        rw [k1]
        exact hi
      refine ⟨⟨⟨by omega, by omega⟩, by omega⟩, fun c => ?_, fun c => ⟨fun q => ⟨⟨by omega, by omega⟩, put ⟨bit_div.mp c, Or.inl q⟩⟩, fun q => ⟨⟨by omega, by omega⟩, fun t => ?_, fun t => ⟨⟨by omega, by omega⟩, put ⟨bit_div.mp c, Or.inr ?_⟩⟩⟩⟩⟩
      · rw [bit_div] at c
        rw [if_neg (fun q => c q.1)] at hi
        exact hi
      · rw [if_neg q] at t
        rw [if_neg (by
          rintro ⟨-, z | z⟩
          · exact q z
          · omega)] at hi
        exact hi
      · rw [if_neg q] at t
        omega
  exact loop (eOf S).length 0 (by omega)
theorem d_FT_exceptions {h : ftH} {S : ftS} {P : List ftS} (hI : ccI h S P) {B : Int} (hok : sOk B S) (hc : csI h S) : ft_C k_FT_exceptions [.inr (.inr 0)] h (fun r h' => r = some (.inl (exC (tOf S))) ∧ sFr h h' ∧ csI h' S) := by
  have hT := tOf_ok hok
  refine ft_enter (n := 2) rfl (Nat.le_of_ble_eq_true rfl) rfl (b_FT_exceptions_0 ⟨_, c_FT_settle hI hok hc ⟨by omega, by omega⟩, fun h1 hw => ?_⟩)
  obtain ⟨-, fin, u3⟩ := hw
  have l3 := fin.2.2.2.2.1 u3
  have hS := setI_of l3.2.2.2.2.1 l3.2.2.2.2.2
  have hlen := hS.1
  have loop : ∀ m i : Nat, i + m = (tOf S).length → ft_V k_FT_exceptions 9 [some (.inr (.inr 0)), some (.inl (exC ((tOf S).take i))), some (.inl (i : Int))] [] h1 (fun r h' => r = some (.inl (exC (tOf S))) ∧ sFr h h' ∧ csI h' S) := by
    intro m
    induction m with
    | zero =>
      intro i hm
      refine b_FT_exceptions_9 ⟨fun _ => ⟨?_, fin⟩, fun c => absurd (by rw [hlen]; omega) c⟩
      rw [List.take_of_length_le (by omega)]
    | succ m ih =>
      intro i hm
      have ha : h1 147 i = vAt (tOf S) i := (hS.2.2 i (by omega)).2
      have hi := ih (i + 1) (by omega)
      have hr := exC_rng (tOf S) i
      rw [exC_take (by omega)] at hi
      refine b_FT_exceptions_9 ⟨fun c => absurd c (by rw [hlen]; omega), fun _ => ?_⟩
      rw [Int.toNat_natCast, ha, inc1 (by omega)]
      refine ⟨⟨by omega, by omega⟩, fun c => ?_, fun c => ?_⟩
      · rw [if_neg c, Int.add_zero] at hi; exact hi
      · rw [if_pos c] at hi
        rw [ft_add_eq ⟨by omega, by omega⟩]
        exact hi
  exact loop (tOf S).length 0 (by omega)
theorem d_FT_targetSize {h : ftH} {S : ftS} {P : List ftS} (hI : ccI h S P) {B : Int} (hok : sOk B S) (hc : csI h S) : ft_C k_FT_targetSize [.inr (.inr 0)] h (fun r h' => r = some (.inl ((tOf S).length : Int)) ∧ sFr h h' ∧ csI h' S) := by
  refine ft_enter (n := 0) rfl (Nat.le_of_ble_eq_true rfl) rfl (b_FT_targetSize_0 ⟨_, c_FT_settle hI hok hc ⟨by omega, by omega⟩, fun h1 hw => ?_⟩)
  obtain ⟨-, fin, u3⟩ := hw
  have l3 := fin.2.2.2.2.1 u3
  exact ⟨by rw [(setI_of l3.2.2.2.2.1 l3.2.2.2.2.2).1], fin⟩
theorem d_FT_target {h : ftH} {S : ftS} {P : List ftS} (hI : ccI h S P) {B : Int} (hok : sOk B S) (hc : csI h S) {i w : Int} : ft_C k_FT_target [.inr (.inr 0), .inl i, .inl w] h (fun r h' => r = some (.inr (.inl (qTgt i w S))) ∧ sFr h h' ∧ csI h' S) := by
  have hT := tOf_ok hok
  have l146 := (ft_ln_ps s_145).2.1
  have bad : (i < 0 ∨ ¬ (0 ≤ w ∧ w ≤ 2)) → ((some (.inr (.inl (-1))) : Option ftV) = some (.inr (.inl (qTgt i w S))) ∧ sFr h h ∧ csI h S) := fun q => by unfold qTgt; rw [if_pos q]; exact ⟨rfl, sFr_rfl h, hc⟩
  refine ft_enter (n := 0) rfl (Nat.le_of_ble_eq_true rfl) rfl (b_FT_target_0 ⟨fun c => bad (by omega), fun c => ⟨fun d => bad (by omega), fun d => ⟨fun f => ⟨_, c_FT_settle hI hok hc ⟨by omega, by omega⟩, fun h1 hw => ?_⟩, fun f => bad (by omega)⟩⟩⟩)
  obtain ⟨-, fin, u3⟩ := hw
  have l3 := fin.2.2.2.2.1 u3
  have hS := setI_of l3.2.2.2.2.1 l3.2.2.2.2.2
  have hlen := hS.1
  unfold qTgt qTell
  rw [if_neg (by omega)]
  refine ⟨fun q => ?_, fun q => ?_⟩
  · rw [List.getElem?_eq_none (by omega)]
    exact ⟨rfl, fin⟩
  · have g2 := pl_at l3.2.2.2.2.2 (i := i) (by omega) (by omega)
    have hk := (hT.1.1 _ (List.mem_of_getElem? g2)).1.1.1
    rw [g2]
    exact ⟨⟨⟨by omega, by omega⟩, hk⟩, rfl, fin⟩
theorem v_FT_lost {h : ftH} {S : ftS} {B : Int} (hok : sOk B S) (l3 : lv3 h S) {cap : Nat} : ft_C k_Ch_lostWith [.inr (.inr 143), .inl (cap : Int)] h (fun r h' => h' = h ∧ r = some (.inl (bL S cap))) := by
  have hEo := eOf_ok hok
  have hHo := hOf_ok hok
  refine ft_Cw (c_Ch_lost hEo.2.2 hHo.1 hHo.2.1 l3.2.2.1 l3.2.1 (cap := cap)) (fun r h' q => ?_)
  obtain ⟨q1, b, D, q2, q3⟩ := q
  refine ⟨q1, ?_⟩
  rw [q2]
  unfold bL
  rw [(bsX_eq q3).2.2]
theorem d_FT_lostHits {h : ftH} {S : ftS} {P : List ftS} (hI : ccI h S P) {B : Int} (hok : sOk B S) (hc : csI h S) : ft_C k_FT_lostHits [.inr (.inr 0)] h (fun r h' => r = some (.inl (bL S S.1.toNat)) ∧ sFr h h' ∧ csI h' S) := by
  refine ft_enter (n := 0) rfl (Nat.le_of_ble_eq_true rfl) rfl (b_FT_lostHits_0 ⟨_, c_FT_settle hI hok hc ⟨by omega, by omega⟩, fun h1 hw => ?_⟩)
  obtain ⟨-, fin, u3⟩ := hw
  have l3 := fin.2.2.2.2.1 u3
  have e0 := (cc_eq (sFr_cc hI fin.1)).1
  have hcap := hok.1
  rw [e0, show S.1 = (S.1.toNat : Int) by omega]
  refine ⟨_, v_FT_lost hok l3, fun z h2 _ q => ?_⟩
  obtain ⟨rfl, q⟩ := q
  rw [q]
  exact ⟨by rw [Int.toNat_natCast], fin⟩
theorem d_FT_lostHitsWith {h : ftH} {S : ftS} {P : List ftS} (hI : ccI h S P) {B : Int} (hok : sOk B S) (hc : csI h S) {x : Int} : ft_C k_FT_lostHitsWith [.inr (.inr 0), .inl x] h (fun r h' => r = some (.inl (qLW x S)) ∧ sFr h h' ∧ csI h' S) := by
  have bad : ¬ (0 ≤ x ∧ x ≤ 60) → ((some (.inl (-1)) : Option ftV) = some (.inl (qLW x S)) ∧ sFr h h ∧ csI h S) := fun q => by unfold qLW; rw [if_neg q]; exact ⟨rfl, sFr_rfl h, hc⟩
  refine ft_enter (n := 0) rfl (Nat.le_of_ble_eq_true rfl) rfl (b_FT_lostHitsWith_0 ⟨fun c => bad (by omega), fun c => ⟨fun d => ⟨_, c_FT_settle hI hok hc ⟨by omega, by omega⟩, fun h1 hw => ?_⟩, fun d => bad (by omega)⟩⟩)
  obtain ⟨-, fin, u3⟩ := hw
  have l3 := fin.2.2.2.2.1 u3
  obtain ⟨k, rfl⟩ : ∃ k : Nat, x = (k : Int) := ⟨x.toNat, by omega⟩
  refine ⟨_, v_FT_lost hok l3, fun z h2 _ q => ?_⟩
  obtain ⟨rfl, q⟩ := q
  rw [q]
  unfold qLW
  rw [if_pos (by omega), Int.toNat_natCast]
  exact ⟨rfl, fin⟩
theorem d_FT_enough {h : ftH} {S : ftS} {P : List ftS} (hI : ccI h S P) {B : Int} (hok : sOk B S) (hc : csI h S) : ft_C k_FT_enough [.inr (.inr 0)] h (fun r h' => r = some (.inl (bP S 60 : Int)) ∧ sFr h h' ∧ csI h' S) := by
  have hEo := eOf_ok hok
  have hHo := hOf_ok hok
  refine ft_enter (n := 0) rfl (Nat.le_of_ble_eq_true rfl) rfl (b_FT_enough_0 ⟨_, c_FT_settle hI hok hc ⟨by omega, by omega⟩, fun h1 hw => ?_⟩)
  obtain ⟨-, fin, u3⟩ := hw
  have l3 := fin.2.2.2.2.1 u3
  refine ⟨_, c_Ch_places (cap := 60) hEo.2.2 hHo.1 l3.2.2.1, fun z h2 _ q => ?_⟩
  obtain ⟨rfl, b, D, q1, -, q2, -, -⟩ := q
  rw [q1]
  unfold bP
  rw [(bsX_eq q2).1]
  exact ⟨rfl, fin⟩
