/-! the reference: packets and ageing -/
theorem mcI_log {o : Nat} (ho : o = 190) {h h' : ftH} {S : ftS} {P : List ftS} (hI : mcI h S P) (f1 : ∀ k, k ≠ 310 → h' k = h k) {n : Nat} (hn : h' 310 1 = n) (h40 : n ≤ 40) (f3 : ∀ j, j ≠ 1 → (j < o ∨ o + 80 ≤ j) → h' 310 j = h 310 j) : mcI h' (S.1, S.2.1, S.2.2.1, ft_gl h' 310 o n, S.2.2.2.2) P := by
  subst ho
  obtain ⟨z1, z2, z3, z4, z5⟩ := ft_mz_0.mp hI.1.1
  have s := hI.1.2
  rw [ft_ma_0] at s
  have k0 := f3 0 (by omega) (by omega)
  have k2 := f3 2 (by omega) (by omega)
  have k3 := f3 3 (by omega) (by omega)
  refine mcI_310 hI f1 (ft_mz_0.mpr ⟨by rw [k0]; exact z1, by rw [k2]; exact z2, by rw [hn]; omega, fun k hk => ?_, fun k hk => ?_⟩) ?_
  · rw [k0] at hk
    rw [f3 _ (by omega) (by omega)]
    exact z4 k hk
  · rw [k2] at hk
    rw [f3 _ (by omega) (by omega)]
    exact z5 k hk
  · have q1 : ft_ml h' 310 10 (h 310 0).toNat = ft_ml h 310 10 (h 310 0).toNat := ft_ml_mv (fun j _ => f3 _ (by omega) (by omega))
    have q2 : ft_ml h' 310 270 (h 310 2).toNat = ft_ml h 310 270 (h 310 2).toNat := ft_ml_mv (fun j _ => f3 _ (by omega) (by omega))
    have q4 : ft_mc h' = ft_mc h := by
      unfold ft_mc
      rw [f3 4 (by omega) (by omega), f3 5 (by omega) (by omega), f3 6 (by omega) (by omega), f3 7 (by omega) (by omega), f3 8 (by omega) (by omega)]
    rw [ft_ma_0, k0, k2, k3, hn, q1, q2, q4, Int.toNat_natCast, ← s]
theorem d_Mo_packet {h : ftH} {S : ftS} {P : List ftS} (hI : mcI h S P) {B : Int} (hB : B ≤ 1000000000) (hok : sOk B S) {a n : Int} (ha : ft_in a) : ft_C k_Mo_packet [.inr (.inr 309), .inl a, .inl n] h (fun r h' => (∀ c, c ≠ 309 → c ≠ 310 → c ≠ 311 → h' c = h c) ∧ ((¬ (1 ≤ n ∧ n ≤ 9999) ∧ r = some (.inl (-1)) ∧ h' = h) ∨ ((1 ≤ n ∧ n ≤ 9999) ∧ r = some (.inl (if ansB S.2.2.1 (pUn a) = true then 1 else 0)) ∧ ∃ S', isPkt (pUn a) n S S' ∧ (∀ j, j ≠ 4 → j ≠ 20 → h' 309 j = h 309 j) ∧ h' 309 20 = 0 ∧ mcI h' S' ((S :: P).take 8)))) := by
  refine ft_enter (n := 1) rfl (Nat.le_of_ble_eq_true rfl) rfl (b_Mo_packet_0 ⟨fun c => ⟨_, d_Mo_keepsPast hI, fun h1 hw => ?_⟩, fun c => ⟨fun _ _ _ _ => rfl, Or.inl ⟨c, rfl, rfl⟩⟩⟩)
  obtain ⟨-, g1, g2, g3, gI⟩ := hw
  obtain ⟨z1, z2, z3, z4, z5⟩ := ft_mz_0.mp gI.1.1
  have sg := gI.1.2
  rw [ft_ma_0] at sg
  have v3 : ft_gl h1 310 190 (h1 310 1).toNat = S.2.2.2.1 := congrArg (fun s : ftS => s.2.2.2.1) sg
  refine ⟨_, c_Mo_logs (o := 190) rfl (n := (h1 310 1).toNat) (by omega) (by omega) (by rw [v3]; exact hok.2.2.2.1) ha c, fun h2 hw => ?_⟩
  obtain ⟨-, n', f1, f2, f3, f4, f5⟩ := hw
  rw [v3] at f5
  have gI2 := mcI_log rfl gI f1 f2 f3 f4
  obtain ⟨y1, y2, y3, y4, y5⟩ := ft_mz_0.mp gI2.1.1
  have s2 := gI2.1.2
  rw [ft_ma_0] at s2
  have u2 : ft_ml h2 310 270 (h2 310 2).toNat = S.2.2.1 := congrArg (fun s : ftS => s.2.2.1) s2
  have u4 : ft_mc h2 = S.2.2.2.2 := congrArg (fun s : ftS => s.2.2.2.2) s2
  refine ⟨_, c_Mo_isHard (o := 270) rfl (n := (h2 310 2).toNat) (by omega) (by omega) (fun k hk => y5 k (by omega)) (by rw [u2]; exact hok.2.2.1.1), fun z h3 _ hw => ?_⟩
  obtain ⟨hz, rfl⟩ := hw
  cases hz
  rw [u2]
  have b0 := hok.2.2.2.2.2 (h3 310 4) (by rw [← u4]; simp [ft_mc])
  have b1 := hok.2.2.2.2.2 (h3 310 5) (by rw [← u4]; simp [ft_mc])
  have fin : ∀ (g : ftH) (c : List Int), (∀ k, k ≠ 310 → g k = h3 k) → (∀ j, j ≠ 4 → j ≠ 5 → g 310 j = h3 310 j) → ft_mc g = c → (∀ c, c ≠ 309 → c ≠ 310 → c ≠ 311 → g c = h c) ∧ (∀ j, j ≠ 4 → j ≠ 20 → g 309 j = h 309 j) ∧ g 309 20 = 0 ∧ mcI g (S.1, S.2.1, S.2.2.1, ft_gl h3 310 190 n', c) ((S :: P).take 8) := by
    intro g c t1 t2 t3
    refine ⟨fun c c1 c2 c3 => by rw [t1 c c2, f1 c c2, g1 c c1 c3], fun j j1 j2 => by rw [t1 309 (by omega), f1 309 (by omega), g2 j j1 j2], by rw [t1 309 (by omega), f1 309 (by omega), g3], ?_⟩
    have k0 := t2 0 (by omega) (by omega)
    have k1 := t2 1 (by omega) (by omega)
    have k2 := t2 2 (by omega) (by omega)
    have k3 := t2 3 (by omega) (by omega)
    refine mcI_310 gI2 t1 (ft_mz_0.mpr ⟨by rw [k0]; exact y1, by rw [k2]; exact y2, by rw [k1]; exact y3, fun k hk => ?_, fun k hk => ?_⟩) ?_
    · rw [k0] at hk
      rw [t2 _ (by omega) (by omega)]
      exact y4 k hk
    · rw [k2] at hk
      rw [t2 _ (by omega) (by omega)]
      exact y5 k hk
    · have q1 : ft_ml g 310 10 (h3 310 0).toNat = ft_ml h3 310 10 (h3 310 0).toNat := ft_ml_mv (fun j _ => t2 _ (by omega) (by omega))
      have q2 : ft_ml g 310 270 (h3 310 2).toNat = ft_ml h3 310 270 (h3 310 2).toNat := ft_ml_mv (fun j _ => t2 _ (by omega) (by omega))
      have q3 : ft_gl g 310 190 (h3 310 1).toNat = ft_gl h3 310 190 (h3 310 1).toNat := ft_gl_mv (fun j _ => t2 _ (by omega) (by omega))
      have e0 : h3 310 3 = S.1 := congrArg (fun s : ftS => s.1) s2
      have e1 : ft_ml h3 310 10 (h3 310 0).toNat = S.2.1 := congrArg (fun s : ftS => s.2.1) s2
      have e3 : ft_gl h3 310 190 (h3 310 1).toNat = ft_gl h3 310 190 n' := congrArg (fun s : ftS => s.2.2.2.1) s2
      rw [ft_ma_0, k0, k1, k2, k3, q1, q2, q3, t3, e0, e1, u2, e3]
  refine ⟨fun e g eg => ⟨fun _ => ?_, fun q => absurd e q⟩, fun e g eg => ⟨fun q => absurd q e, fun _ => ?_⟩⟩
  · have hno := ft_if0.mp e
    rw [ft_add_eq ⟨by omega, by omega⟩] at eg
    have hct : ft_mc g = ctPkt (ansB S.2.2.1 (pUn a)) n S.2.2.2.2 := by
      rw [← u4]
      unfold ft_mc ctPkt
      simp only
      rw [if_neg hno, eg, ft_hs_j (by omega), ft_hs_same, ft_hs_j (by omega), ft_hs_j (by omega), ft_hs_j (by omega)]
    obtain ⟨t1, t2, t3, t4⟩ := fin g _ (fun k hk => by rw [eg, ft_hs_ne k hk]) (fun j _ j2 => by rw [eg, ft_hs_j j2]) hct
    exact ⟨t1, Or.inr ⟨c, by rw [if_neg hno], _, ⟨_, f5, rfl⟩, t2, t3, t4⟩⟩
  · have hyes := ft_if1.mp e
    rw [ft_add_eq ⟨by omega, by omega⟩] at eg
    have hct : ft_mc g = ctPkt (ansB S.2.2.1 (pUn a)) n S.2.2.2.2 := by
      rw [← u4]
      unfold ft_mc ctPkt
      simp only
      rw [if_pos hyes, eg, ft_hs_same, ft_hs_j (by omega), ft_hs_j (by omega), ft_hs_j (by omega), ft_hs_j (by omega)]
    obtain ⟨t1, t2, t3, t4⟩ := fin g _ (fun k hk => by rw [eg, ft_hs_ne k hk]) (fun j j1 _ => by rw [eg, ft_hs_j j1]) hct
    exact ⟨t1, Or.inr ⟨c, by rw [if_pos hyes], _, ⟨_, f5, rfl⟩, t2, t3, t4⟩⟩
theorem logHalf_cons (q : Int × Int) (l : List (Int × Int)) : logHalf (q :: l) = if 1 < q.2 then (q.1, q.2 / 2) :: logHalf l else logHalf l := by
  unfold logHalf
  by_cases c : 1 < q.2
  · rw [List.filter_cons_of_pos (by simpa using c), if_pos c]; rfl
  · rw [List.filter_cons_of_neg (by simpa using c), if_neg c]
theorem v_Mo_age {o : Nat} (ho : o = 190) {G : List (Int × Int)} (hG : gOk G) {h0 : ftH} {was : Int} {R : Option ftV → ftH → Prop} (hk : ∀ (h' : ftH) (n' : Nat), (∀ k, k ≠ 310 → h' k = h0 k) → h' 310 1 = n' → n' ≤ 40 → (∀ j, j ≠ 1 → (j < o ∨ o + 80 ≤ j) → h' 310 j = h0 310 j) → ft_gl h' 310 o n' = logHalf G → R (some (.inl (ft_sub was (n' : Int)))) h') :
    ∀ (i n : Nat) (h : ftH) (x : Int), x = (i : Int) - 1 → i ≤ G.length → n ≤ 40 → h 310 1 = n → (∀ k, k ≠ 310 → h k = h0 k) → (∀ j, j ≠ 1 → (j < o ∨ o + 80 ≤ j) → h 310 j = h0 310 j) → ft_gl h 310 o n = G.take i ++ logHalf (G.drop i) → ft_V k_Mo_age 27 [some (.inr (.inr 309)), some (.inl was), some (.inl x)] [] h R := by
  intro i
  induction i with
  | zero =>
    intro n h x hx hi h40 hn f1 f3 hl
    refine b_Mo_age_27 ⟨fun c => ?_, fun c => absurd (by omega) c⟩
    rw [hn]
    exact hk h n f1 hn h40 f3 (by rw [hl]; rfl)
  | succ i ih =>
    intro n h x hx hi h40 hn f1 f3 hl
    have hx2 : x = (i : Int) := by omega
    subst hx2
    clear hx
    have hlt : i < G.length := by omega
    generalize hq : G[i] = q at *
    have hG4 := hG.1
    have hqm : q ∈ G := by rw [← hq]; exact List.getElem_mem hlt
    have hqb := hG.2 q hqm
    have ht : G.take (i + 1) = G.take i ++ [q] := by rw [← hq, List.take_append_getElem]
    have hd : G.drop i = q :: G.drop (i + 1) := by rw [← hq, List.drop_eq_getElem_cons hlt]
    have htl : (G.take i).length = i := by rw [List.length_take]; omega
    rw [ht, List.append_assoc] at hl
    have hnl : n = i + (1 + (logHalf (G.drop (i + 1))).length) := by
      have := congrArg List.length hl
      rw [ft_gl_len, List.length_append, htl, List.length_append, List.length_singleton] at this
      exact this
    have hgi : (ft_gl h 310 o n)[i]? = some q := by
      rw [hl, List.getElem?_append_right (by omega), htl, Nat.sub_self]; rfl
    rw [ft_gl_get (by omega)] at hgi
    have hq1 : pUn (h 310 (o + 2 * i)) = q.1 := congrArg Prod.fst (Option.some.inj hgi)
    have hq2 : h 310 (o + 2 * i + 1) = q.2 := congrArg Prod.snd (Option.some.inj hgi)
    refine b_Mo_age_27 ⟨fun c => absurd c (by omega), fun c => ⟨⟨by omega, by omega⟩, ?_⟩⟩
    rw [Int.toNat_natCast, show 191 + 2 * i = o + 2 * i + 1 by omega, show (190 : Int) = ((o : Nat) : Int) by omega, ix2 (by omega), ft_add_eq (x := ((o + 2 * i : Nat) : Int)) ⟨by omega, by omega⟩, show (((o + 2 * i : Nat) : Int) + 1).toNat = o + 2 * i + 1 by omega, hq2, ft_div_eq (by omega) (by omega) (by omega) (by omega)]
    refine ⟨⟨by omega, by omega⟩, fun h1 e1 => ?_⟩
    have k1 : h1 310 1 = n := by rw [e1, ft_hs_j (by omega), hn]
    have kk : ∀ k, k ≠ 310 → h1 k = h0 k := fun k hk' => by rw [e1, ft_hs_ne k hk', f1 k hk']
    have kj : ∀ j, j ≠ 1 → (j < o ∨ o + 80 ≤ j) → h1 310 j = h0 310 j := fun j j1 j2 => by rw [e1, ft_hs_j (by omega), f3 j j1 j2]
    have kv : h1 310 (o + 2 * i + 1) = q.2 / 2 := by rw [e1, ft_hs_same]
    have hl1 : ft_gl h1 310 o n = G.take i ++ ((q.1, q.2 / 2) :: logHalf (G.drop (i + 1))) := by
      have e2 : ft_gl h1 310 o n = (ft_gl h 310 o n).set i (q.1, q.2 / 2) := by
        apply List.ext_getElem?
        intro j
        by_cases ej : j = i
        · rw [ej, List.getElem?_set_self (by rw [ft_gl_len]; omega), ft_gl_get (by omega), kv, e1, ft_hs_j (by omega), hq1]
        · rw [List.getElem?_set_ne (fun z => ej z.symm)]
          by_cases cj : j < n
          · rw [ft_gl_get cj, ft_gl_get cj, e1, ft_hs_j (by omega), ft_hs_j (by omega)]
          · rw [ft_gl_none (by omega), ft_gl_none (by omega)]
      rw [e2, hl, List.set_append_right _ _ (by omega), htl, Nat.sub_self]
      rfl
    rw [kv]
    refine ⟨⟨by omega, by omega⟩, fun d => ?_, fun d => ⟨_, c_Mo_dropsSeen ho k1 h40 (a := i) (by omega), fun h2 hw => ?_⟩⟩
    · rw [ft_add_eq ⟨by omega, by omega⟩]
      refine ih n h1 _ (by omega) (by omega) h40 k1 kk kj ?_
      rw [hl1, hd, logHalf_cons, if_pos (by omega)]
    · obtain ⟨-, g1, g2, g3, g4⟩ := hw
      rw [ft_add_eq ⟨by omega, by omega⟩]
      refine ih (n - 1) h2 _ (by omega) (by omega) (by omega) g2 (fun k hk' => by rw [g1 k hk', kk k hk']) (fun j j1 j2 => by rw [g3 j j1 j2, kj j j1 j2]) ?_
      rw [g4, hl1, hd, logHalf_cons, if_neg (by omega), List.eraseIdx_append_of_length_le (by omega), htl, Nat.sub_self]
      rfl
theorem d_Mo_age {h : ftH} {S : ftS} {P : List ftS} (hI : mcI h S P) {B : Int} (hok : sOk B S) : ft_C k_Mo_age [.inr (.inr 309)] h (fun r h' => r = some (.inl (aAge S).1) ∧ (∀ c, c ≠ 309 → c ≠ 310 → c ≠ 311 → h' c = h c) ∧ ((aAge S).2 = none ∧ h' = h ∨ ∃ S', (aAge S).2 = some S' ∧ (∀ j, j ≠ 4 → j ≠ 20 → h' 309 j = h 309 j) ∧ h' 309 20 = 0 ∧ mcI h' S' ((S :: P).take 8))) := by
  have z3 := (ft_mz_0.mp hI.1.1).2.2.1
  have s := hI.1.2
  rw [ft_ma_0] at s
  have w3 : ft_gl h 310 190 (h 310 1).toNat = S.2.2.2.1 := congrArg (fun s : ftS => s.2.2.2.1) s
  have hlen : (S.2.2.2.1.length : Int) = h 310 1 := by rw [← w3, ft_gl_len]; omega
  refine ft_enter (n := 2) rfl (Nat.le_of_ble_eq_true rfl) rfl (b_Mo_age_0 ⟨fun c => ⟨_, d_Mo_keepsPast hI, fun h1 hw n3 e3 n4 e4 => ?_⟩, fun c => ?_⟩)
  · obtain ⟨-, g1, g2, g3, gI⟩ := hw
    have e31 : h1 310 1 = h 310 1 := by rw [g1 310 (by omega) (by omega)]
    have sg := gI.1.2
    rw [ft_ma_0] at sg
    have v3 : ft_gl h1 310 190 (h1 310 1).toNat = S.2.2.2.1 := congrArg (fun s : ftS => s.2.2.2.1) sg
    have e9 : aAge S = ((S.2.2.2.1.length : Int) - (logHalf S.2.2.2.1).length, some (S.1, S.2.1, S.2.2.1, logHalf S.2.2.2.1, S.2.2.2.2)) := by unfold aAge; rw [if_neg (by omega)]
    rw [e4, ft_sub_eq ⟨by omega, by omega⟩]
    refine v_Mo_age (o := 190) rfl hok.2.2.2.1 (h0 := h1) (fun h' n' f1 f2 f3 f4 f5 => ?_) S.2.2.2.1.length (h1 310 1).toNat h1 (n3 - 1) (by omega) (Nat.le_refl _) (by omega) (by omega) (fun _ _ => rfl) (fun _ _ _ => rfl) ?_
    · have hI2 := mcI_log rfl gI f1 f2 f3 f4
      rw [f5] at hI2
      have hln : (logHalf S.2.2.2.1).length = n' := by rw [← f5, ft_gl_len]
      rw [e9, hlen, hln, ft_sub_eq ⟨by omega, by omega⟩, e3, e31]
      exact ⟨rfl, fun c c1 c2 c3 => by rw [f1 c c2, g1 c c1 c3], Or.inr ⟨_, rfl, fun j j1 j2 => by rw [f1 309 (by omega), g2 j j1 j2], by rw [f1 309 (by omega), g3], hI2⟩⟩
    · rw [v3, List.take_length, List.drop_length]
      exact (List.append_nil _).symm
  · have e9 : aAge S = (-2, none) := by unfold aAge; rw [if_pos (by omega)]
    rw [e9]
    exact ⟨rfl, fun _ _ _ _ => rfl, Or.inl ⟨rfl, rfl⟩⟩
