/-! hits are counted; the target is laid -/
theorem v_Ch_hits2 {E G : List (Int × Int)} {h0 : ftH} (hS : setI h0 133 E) (h60 : E.length ≤ 60) {R : Option ftV → ftH → Prop} (hk : ∀ h : ftH, (∀ i, i < E.length → h 144 i = 0) → h 143 2 = 0 → (∀ c, c ≠ 144 → c ≠ 143 → h c = h0 c) → ft_V k_Ch_countHits 30 [some (.inr (.inr 143)), some (.inr (.inr 133)), some (.inr (.inr 8)), some (.inl 0), none] [] h R) :
    ∀ (m i : Nat) (h : ftH), i + m = E.length → (∀ c, c ≠ 144 → h c = h0 c) → (∀ j, j < i → h 144 j = 0) → ft_V k_Ch_countHits 2 [some (.inr (.inr 143)), some (.inr (.inr 133)), some (.inr (.inr 8)), some (.inl (i : Int)), none] [] h R := by
  have sh133 : ft_sh 133 = some (.inl 4) := by decide +kernel
  intro m
  induction m with
  | zero =>
    intro i h hm f hz
    refine b_Ch_countHits_2 sh133 sh_8 ⟨fun _ h1 e1 => hk h1 (fun j hj => by rw [e1, ft_hs_ne _ (by omega)]; exact hz j (by omega)) (by rw [e1]; exact ft_hs_same) (fun c c1 c2 => by rw [e1, ft_hs_ne c c2, f c c1]), fun c => absurd (by rw [f 133 (by omega), hS.1]; omega) c⟩
  | succ m ih =>
    intro i h hm f hz
    refine b_Ch_countHits_2 sh133 sh_8 ⟨fun c => absurd c (by rw [f 133 (by omega), hS.1]; omega), fun _ => ⟨⟨by omega, by omega⟩, fun h2 e2 => ?_⟩⟩
    rw [Int.toNat_natCast] at e2
    rw [inc1 (by omega)]
    refine ih (i + 1) h2 (by omega) (fun c c1 => by rw [e2, ft_hs_ne c c1, f c c1]) (fun j hj => ?_)
    by_cases q : j = i
    · rw [q, e2]; exact ft_hs_same
    · rw [e2, ft_hs_j q]; exact hz j (by omega)
theorem hitI_snoc {E G : List (Int × Int)} {q : Int × Int} {i : Nat} : hitI E (G ++ [q]) i = hitI E G i + if lmI E q.1 = (i : Int) then q.2 else 0 := by
  unfold hitI
  rw [List.map_append, List.sum_append]
  simp
theorem allH_snoc {E G : List (Int × Int)} {q : Int × Int} : allH E (G ++ [q]) = allH E G + if 0 ≤ lmI E q.1 then q.2 else 0 := by
  unfold allH
  rw [List.map_append, List.sum_append]
  simp
theorem gOk_take {G : List (Int × Int)} (hG : gOk G) (n : Nat) : gOk (G.take n) := ⟨by have := hG.1; rw [List.length_take]; omega, fun q hq => hG.2 q (List.mem_of_mem_take hq)⟩
theorem hit_le {E G : List (Int × Int)} (hG : gOk G) {i : Nat} (hi : i < E.length) : hitI E G i ≤ 39999960 := by
  have h1 := sm_ge E.length (fun j _ => hit_nn (E := E) hG j) hi
  rw [hit_all] at h1
  have := (allH_le (E := E) hG).2
  omega
theorem v_Ch_hits {E G : List (Int × Int)} (h60 : E.length ≤ 60) (hG : gOk G) {h0 : ftH} (hP : ft_ps h0 133) (eE : ft_pl h0 133 = E) (eG : ft_pl h0 8 = G) (hT : 0 ≤ h0 8 2) {R : Option ftV → ftH → Prop} (hk : ∀ h : ftH, (∀ i, i < E.length → h 144 i = hitI E G i) → h 143 2 = allH E G → (∀ c, c ≠ 144 → c ≠ 143 → h c = h0 c) → (∀ j, j ≠ 2 → h 143 j = h0 143 j) → R none h) :
    ∀ (m i : Nat) (h : ftH), i + m = G.length → (∀ c, c ≠ 144 → c ≠ 143 → h c = h0 c) → (∀ j, j ≠ 2 → h 143 j = h0 143 j) → (∀ j, j < E.length → h 144 j = hitI E (G.take i) j) → h 143 2 = allH E (G.take i) → ft_V k_Ch_countHits 30 [some (.inr (.inr 143)), some (.inr (.inr 133)), some (.inr (.inr 8)), some (.inl (i : Int)), none] [] h R := by
  have sh133 : ft_sh 133 = some (.inl 4) := by decide +kernel
  have hGl := pl_len eG hT
  intro m
  induction m with
  | zero =>
    intro i h hm f fj hz ha
    rw [List.take_of_length_le (by omega)] at hz ha
    exact b_Ch_countHits_30 sh133 sh_8 ⟨fun _ => hk h hz ha f fj, fun c => absurd (by rw [f 8 (by omega) (by omega)]; omega) c⟩
  | succ m ih =>
    intro i h hm f fj hz ha
    have h40 := hG.1
    have hg := pl_at eG (i := (i : Int)) (by omega) (by omega)
    rw [Int.toNat_natCast] at hg
    have hq := hG.2 _ (List.mem_of_getElem? hg)
    have ht := take_succ_get G i _ hg
    have hPh : ft_ps h 133 := by
      unfold ft_ps
      rw [f 133 (by omega) (by omega), f (133 + 1) (by omega) (by omega), f (133 + 2) (by omega) (by omega)]
      exact hP
    have ePh : ft_pl h 133 = E := by
      unfold ft_pl
      rw [f 133 (by omega) (by omega), f (133 + 1) (by omega) (by omega), f (133 + 2) (by omega) (by omega)]
      exact eE
    refine b_Ch_countHits_30 sh133 sh_8 ⟨fun c => absurd c (by rw [f 8 (by omega) (by omega)]; omega), fun _ => ⟨⟨by omega, by omega⟩, _, d_PS_longest sh133 hPh, fun z3 h1 _ hw => ?_⟩⟩
    obtain ⟨rfl, r, hz3, hlm, hr⟩ := hw
    have hz3 := injI hz3
    subst hz3
    rw [ePh] at hlm
    have hlm := lmI_of hlm
    rw [Int.toNat_natCast, f (8 + 1) (by omega) (by omega)] at hlm
    have hi := ih (i + 1)
    rw [ht] at hi
    simp only [hitI_snoc, allH_snoc] at hi
    rw [Int.toNat_natCast, f (8 + 2) (by omega) (by omega), inc1 (by omega)]
    refine ⟨fun c => ?_, fun c => ?_⟩
    · refine hi h1 (by omega) f fj (fun j hj => ?_) ?_
      · rw [hz j hj, if_neg (by rw [show 8 + 1 = 8 + 1 from rfl]; omega)]
        omega
      · rw [ha, if_neg (by omega)]
        omega
    · obtain ⟨p, rfl⟩ := Int.eq_ofNat_of_zero_le (show 0 ≤ z3 by omega)
      have hpE : p < E.length := (lmI_in hlm).1
      have b1 := hit_nn (E := E) (gOk_take hG i) p
      have b2 := hit_le (E := E) (gOk_take hG i) hpE
      have b3 := allH_le (E := E) (gOk_take hG i)
      rw [Int.toNat_natCast]
      refine ⟨⟨by omega, by omega⟩, ⟨by omega, by omega⟩, ⟨by omega, by omega⟩, fun h2 e2 => ⟨⟨by omega, by omega⟩, fun h3 e3 => ?_⟩⟩
      rw [hz p hpE, ft_add_eq ⟨by omega, by omega⟩] at e2
      have r2 : h2 143 = h1 143 := by rw [e2]; exact ft_hs_ne _ (by omega)
      have r28 : h2 (8 + 2) = h0 (8 + 2) := by rw [e2, ft_hs_ne _ (by omega), f (8 + 2) (by omega) (by omega)]
      rw [r2, r28, ha, ft_add_eq ⟨by omega, by omega⟩] at e3
      refine hi h3 (by omega) (fun c c1 c2 => by rw [e3, ft_hs_ne c c2, e2, ft_hs_ne c c1, f c c1 c2]) (fun j hj => by rw [e3, ft_hs_j hj, r2, fj j hj]) (fun j hj => ?_) ?_
      · rw [e3, ft_hs_ne _ (by omega), e2]
        by_cases q : j = p
        · subst q
          rw [ft_hs_same, if_pos hlm]
        · rw [ft_hs_j q, hz j hj, if_neg (by rw [hlm]; omega)]
          omega
      · rw [e3, ft_hs_same, if_pos (by rw [hlm]; omega)]
theorem c_Ch_hits {E G : List (Int × Int)} (h60 : E.length ≤ 60) (hG : gOk G) {h : ftH} (hP : ft_ps h 133) (eE : ft_pl h 133 = E) (eG : ft_pl h 8 = G) (hT : 0 ≤ h 8 2) : ft_C k_Ch_countHits [.inr (.inr 143), .inr (.inr 133), .inr (.inr 8)] h (fun r h' => r = none ∧ (∀ i, i < E.length → h' 144 i = hitI E G i) ∧ h' 143 2 = allH E G ∧ ∀ c, c ≠ 144 → c ≠ 143 → h' c = h c) := by
  have sh133 : ft_sh 133 = some (.inl 4) := by decide +kernel
  have hS := setI_of hP eE
  refine ft_enter (n := 2) rfl (Nat.le_of_ble_eq_true rfl) rfl (b_Ch_countHits_0 sh133 sh_8 (v_Ch_hits2 (G := G) hS h60 (fun g z1 z2 f => ?_) E.length 0 h (by omega) (fun c _ => rfl) (fun j hj => absurd hj (Nat.not_lt_zero j))))
  have hPg : ft_ps g 133 := by
    unfold ft_ps
    rw [f 133 (by omega) (by omega), f (133 + 1) (by omega) (by omega), f (133 + 2) (by omega) (by omega)]
    exact hP
  have ePg : ft_pl g 133 = E := by
    unfold ft_pl
    rw [f 133 (by omega) (by omega), f (133 + 1) (by omega) (by omega), f (133 + 2) (by omega) (by omega)]
    exact eE
  have eGg : ft_pl g 8 = G := by
    unfold ft_pl
    rw [f 8 (by omega) (by omega), f (8 + 1) (by omega) (by omega), f (8 + 2) (by omega) (by omega)]
    exact eG
  exact v_Ch_hits h60 hG hPg ePg eGg (by rw [f 8 (by omega) (by omega)]; exact hT) (fun g' k1 k2 k3 k4 => ⟨rfl, k1, k2, fun c c1 c2 => by rw [k3 c c1 c2, f c c1 c2]⟩) G.length 0 g (by omega) (fun c _ _ => rfl) (fun j _ => rfl) (fun j hj => by rw [z1 j hj]; rfl) (by rw [z2]; rfl)
theorem insK_last {k v : Int} : ∀ {l : List (Int × Int)}, (∀ q ∈ l, q.1 < k) → insK k v l = l ++ [(k, v)]
  | [], _ => rfl
  | q :: l, h => by
    rw [insK, if_pos (h q List.mem_cons_self), insK_last (fun x hx => h x (List.mem_cons_of_mem _ hx))]
    rfl
theorem bit_div {b k : Nat} : ((b : Int) / 2 ^ k % 2 = 1) ↔ b.testBit k = true := by
  rw [Nat.testBit_eq_decide_div_mod_eq]
  simp only [decide_eq_true_eq]
  have : ((b : Int) / 2 ^ k % 2) = ((b / 2 ^ k % 2 : Nat) : Int) := by push_cast; rfl
  rw [this]
  omega
theorem v_Ch_choose {E : List (Int × Int)} (hE : lOk E) (h60 : E.length ≤ 60) {b : Nat} {h0 : ftH} (hS : setI h0 133 E) (hpar : ∀ i, i < E.length → h0 138 i = parI E i) (h3 : h0 143 3 = (b : Int)) {R : Option ftV → ftH → Prop} (hk : ∀ h : ftH, ft_ps h 145 → ft_pl h 145 = tgL E b E.length → (∀ c, c < 145 ∨ 148 ≤ c → h c = h0 c) → R none h) :
    ∀ (m i : Nat) (h : ftH), i + m = E.length → (∀ c, c < 145 ∨ 148 ≤ c → h c = h0 c) → (0 ≤ h 145 2 ∧ h 145 2 ≤ i) → ft_pl h 145 = tgL E b i → ft_V k_Ch_choose 27 [some (.inr (.inr 143)), some (.inr (.inr 133)), some (.inr (.inr 136)), none, some (.inl (i : Int)), none] [] h R := by
  have sh133 : ft_sh 133 = some (.inl 4) := by decide +kernel
  have sh136 : ft_sh 136 = some (.inl 2) := by decide +kernel
  have sh145 : ft_sh 145 = some (.inl 4) := by decide +kernel
  have l138 : ft_ln (136 + 2) = 60 := by decide +kernel
  have l134 : ft_ln (133 + 1) = 60 := by decide +kernel
  have l135 : ft_ln (133 + 2) = 60 := by decide +kernel
  have l146 : ft_ln (145 + 1) = 60 := by decide +kernel
  intro m
  induction m with
  | zero =>
    intro i h hm f hz hp
    have ei : i = E.length := by omega
    subst ei
    refine b_Ch_choose_27 sh133 sh136 ⟨fun _ => hk h (ft_ps_of ⟨hz.1, by rw [l146]; omega⟩ (by rw [hp]; exact tgL_ok hE b _ (Nat.le_refl _))) hp f, fun c => absurd (by rw [f 133 (by omega), hS.1]; omega) c⟩
  | succ m ih =>
    intro i h hm f hz hp
    have hiE : i < E.length := by omega
    have hokL := tgL_ok hE b i (by omega)
    have hPs : ft_ps h 145 := ft_ps_of ⟨hz.1, by rw [l146]; omega⟩ (by rw [hp]; exact hokL)
    have hlast : ∀ q ∈ tgL E b i, q.1 < kAt E i := fun q hq => by
      obtain ⟨j, j1, j2⟩ := tgL_mem hq
      rw [(tgO_mem j2).1]
      exact kAt_lt hE j1 hiE
    have hpr := parI_rng E i
    have put : ∀ x : Int, tgO E b i = [(kAt E i, x)] → ∃ R6 : Option ftV → ftH → Prop, ft_C k_PS_put [.inr (.inr 145), .inr (.inl (kAt E i)), .inl x] h R6 ∧ ∀ h1 : ftH, R6 none h1 → ft_V k_Ch_choose 27 [some (.inr (.inr 143)), some (.inr (.inr 133)), some (.inr (.inr 136)), none, some (.inl ((i + 1 : Nat) : Int)), none] [] h1 R := by
      intro x hx
      refine ⟨_, c_PS_put sh145 hPs, fun h1 hw => ?_⟩
      obtain ⟨-, u1, u2, u3, u4⟩ := hw
      have hlt : h 145 2 < ft_ln (145 + 1) := by rw [l146]; omega
      have e1 := u3 (Or.inl hlt)
      rw [hp, insK_last hlast, ← hx, ← tgL_succ] at e1
      have e2 := u4 (fun j hj q => by
        have := hlast (h (145 + 1) j, h (145 + 2) j) (by rw [← hp]; exact List.mem_of_getElem? (ft_pl_get hj))
        simp only at this
        omega) hlt
      exact ih (i + 1) h1 (by omega) (fun c hc => by rw [u1 c (by omega), f c hc]) ⟨by omega, by push_cast; omega⟩ e1
    have skip : tgO E b i = [] → ft_V k_Ch_choose 27 [some (.inr (.inr 143)), some (.inr (.inr 133)), some (.inr (.inr 136)), none, some (.inl ((i + 1 : Nat) : Int)), none] [] h R := by
      intro hx
      exact ih (i + 1) h (by omega) f ⟨hz.1, by push_cast; omega⟩ (by rw [tgL_succ, hx, List.append_nil]; exact hp)
    refine b_Ch_choose_27 sh133 sh136 ⟨fun c => absurd c (by rw [f 133 (by omega), hS.1]; omega), fun _ => ⟨⟨by omega, by rw [l138]; omega⟩, fun n1 e1 => ?_⟩⟩
    rw [Int.toNat_natCast, f (136 + 2) (by omega), show 136 + 2 = 138 from rfl, hpar i hiE] at e1
    rw [Int.toNat_natCast, f 143 (by omega), h3, f (133 + 1) (by omega), f (133 + 2) (by omega), (hS.2.2 i hiE).1, (hS.2.2 i hiE).2, inc1 (by omega), l134, l135]
    refine ⟨⟨⟨by omega, by omega⟩, by omega⟩, fun c => ?_, fun c => ⟨⟨by omega, by omega⟩, ⟨by omega, by omega⟩, put _ ?_⟩⟩
    · have nb : ¬ b.testBit (59 - i) = true := fun q => c (bit_div.mpr q)
      refine ⟨fun d => skip ?_, fun d => ?_⟩
      · unfold tgO
        rw [if_neg nb, if_neg (by omega)]
      · refine ⟨⟨⟨by omega, by omega⟩, by omega⟩, fun d2 => skip ?_, fun d2 => ⟨⟨by omega, by omega⟩, put _ ?_⟩⟩
        · unfold tgO
          rw [if_neg nb, if_neg (fun q => d2 (by rw [e1]; exact bit_div.mpr q.2))]
        · unfold tgO
          rw [if_neg nb, if_pos ⟨by omega, by rw [e1] at d2; exact bit_div.mp d2⟩]
    · unfold tgO
      rw [if_pos (bit_div.mp c)]
theorem c_Ch_choose {E : List (Int × Int)} (hE : lOk E) (h60 : E.length ≤ 60) {ht : Nat → Int} (hn : ∀ i, 0 ≤ ht i) {h : ftH} (hS : setI h 133 E) (hpar : ∀ i, i < E.length → h 138 i = parI E i) (hR : Rw h E ht E.length (-1) 0) {cap : Nat} : ft_C k_Ch_choose [.inr (.inr 143), .inr (.inr 133), .inr (.inr 136), .inl (cap : Int)] h (fun r h' => r = none ∧ (∃ b D, bestC E ht cap b D ∧ h' 143 3 = (bD D : Int) ∧ ft_ps h' 145 ∧ ft_pl h' 145 = tgL E (bD D) E.length) ∧ (∀ j, j ≠ 3 → h' 143 j = h 143 j) ∧ ∀ c, c ≠ 143 → (c < 145 ∨ 148 ≤ c) → h' c = h c) := by
  have sh133 : ft_sh 133 = some (.inl 4) := by decide +kernel
  have sh136 : ft_sh 136 = some (.inl 2) := by decide +kernel
  have ll : ft_ln 218 = 61 := (ln_rows 0 (by omega)).2
  refine ft_enter (n := 2) rfl (Nat.le_of_ble_eq_true rfl) rfl (b_Ch_choose_0 sh133 sh136 ⟨⟨by omega, by omega⟩, _, c_Ch_places h60 hn hR (cap := cap), fun z4 h1 _ hw => ?_⟩)
  obtain ⟨rfl, b, D, hz, b60, hb, q1, q2⟩ := hw
  have hz := injI hz
  subst hz
  rw [show (218 + (0 : Int).toNat) = 218 from rfl, Int.toNat_natCast]
  refine ⟨⟨by omega, by omega⟩, fun h2 e2 h3 e3 => ?_⟩
  rw [q2] at e2
  have f : ∀ c, c ≠ 143 → c ≠ 145 → h3 c = h1 c := fun c c1 c2 => by rw [e3, ft_hs_ne c c2, e2, ft_hs_ne c c1]
  have f43 : ∀ j, j ≠ 3 → h3 143 j = h1 143 j := fun j hj => by rw [e3, ft_hs_ne 143 (by omega), e2, ft_hs_j hj]
  have f3 : h3 143 3 = (bD D : Int) := by rw [e3, ft_hs_ne 143 (by omega), e2, ft_hs_same]
  have z : h3 145 2 = 0 := by rw [e3]; exact ft_hs_same
  exact v_Ch_choose hE h60 (b := bD D) (h0 := h3) (setI_fr hS (fun k k1 k2 => f k (by omega) (by omega))) (fun i hi => by rw [f 138 (by omega) (by omega)]; exact hpar i hi) f3 (fun g k1 k2 k3 => ⟨rfl, ⟨b, D, hb, by rw [k3 143 (by omega)]; exact f3, k1, k2⟩, fun j hj => by rw [k3 143 (by omega), f43 j hj], fun c c1 c2 => by rw [k3 c c2, f c c1 (by omega)]⟩) E.length 0 h3 (by omega) (fun c _ => rfl) ⟨by omega, by omega⟩ (ft_pl_nil z)
