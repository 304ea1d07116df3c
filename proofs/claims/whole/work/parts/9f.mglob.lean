/-! WHAT A CALL DOES TO THE WHOLE STATE: the reference -/
theorem tpM_fr {h h' : ftH} {T : List Int} (f1 : h' 309 34 = h 309 34) (f2 : h' 330 = h 330) (hT : tpM h T) : tpM h' T := by
  unfold tpM at hT ⊢
  rw [f1, f2]
  exact hT
theorem wds_fr {h h' : ftH} (f : h' 331 = h 331) (hw : wdsI h) : wdsI h' := fun j hj => by rw [f]; exact hw j hj
theorem mG_q {h h' : ftH} {G : gS} (hG : mG h G) (f : qFr h h') (hl : flI h' G.1) : mG h' G := ⟨qFr_mc f hG.1, hl, tpM_fr (f.2 34 (by omega)) (f.1 330 (by omega)) hG.2.2.1, wds_fr (f.1 331 (by omega)) hG.2.2.2.1, by rw [f.2 42 (by omega)]; exact hG.2.2.2.2⟩
theorem mG_w {h h' : ftH} {G : gS} (hG : mG h G) (f : wFr h h') (hI : mcI h' G.1 G.2.1) (hl : flI h' G.1) : mG h' G := ⟨hI, hl, tpM_fr (f.2 34 (by omega)) (f.1 330 (by omega)) hG.2.2.1, wds_fr (f.1 331 (by omega)) hG.2.2.2.1, by rw [f.2 42 (by omega)]; exact hG.2.2.2.2⟩
theorem mG_op {h h' : ftH} {G : gS} (hG : mG h G) (f : ∀ c, c ≠ 309 → c ≠ 310 → c ≠ 311 → h' c = h c) (fj : ∀ j, j ≠ 4 → j ≠ 20 → h' 309 j = h 309 j) (e20 : h' 309 20 = 0) {S' : ftS} {P' : List ftS} (hI : mcI h' S' P') : mG h' (S', P', G.2.2.1, G.2.2.2) := ⟨hI, Or.inl e20, tpM_fr (fj 34 (by omega) (by omega)) (f 330 (by omega) (by omega) (by omega)) hG.2.2.1, wds_fr (f 331 (by omega) (by omega) (by omega)) hG.2.2.2.1, by rw [fj 42 (by omega) (by omega)]; exact hG.2.2.2.2⟩
theorem mS_capacity : mSp k_Mo_capacity [] (qI (fun S => S.1)) := fun h G B hB hb hG => ft_Cw (d_Mo_capacity hG.1) (fun r h' w => ⟨fun k _ => by rw [w.2], _, G, w.1, ⟨rfl, rfl⟩, by rw [w.2]; exact hG⟩)
theorem mS_routes : mSp k_Mo_routes [] (qI (fun S => (S.2.1.length : Int))) := fun h G B hB hb hG => ft_Cw (d_Mo_routes hG.1) (fun r h' w => ⟨fun k _ => by rw [w.2], _, G, w.1, ⟨rfl, rfl⟩, by rw [w.2]; exact hG⟩)
theorem mS_answer {x : Int} : mSp k_Mo_answer [.inl x] (qI (fun S => ansOf S.2.1 (pUn x))) := fun h G B hB hb hG => ft_Cw (d_Mo_answer hG.1 hb.1) (fun r h' w => ⟨fun k _ => by rw [w.2], _, G, w.1, ⟨rfl, rfl⟩, by rw [w.2]; exact hG⟩)
theorem mS_logged : mSp k_Mo_logged [] (qI (fun S => (S.2.2.2.1.length : Int))) := fun h G B hB hb hG => ft_Cw (d_Mo_logged hG.1) (fun r h' w => ⟨fun k _ => by rw [w.2], _, G, w.1, ⟨rfl, rfl⟩, by rw [w.2]; exact hG⟩)
theorem mS_log {i w : Int} : mSp k_Mo_log [.inl i, .inl w] (qL (fun S => qLog i w S)) := fun h G B hB hb hG => ft_Cw (d_Mo_log hG.1) (fun r h' w => ⟨fun k _ => by rw [w.2], _, G, w.1, ⟨rfl, rfl⟩, by rw [w.2]; exact hG⟩)
theorem mS_hopHits {x : Int} : mSp k_Mo_hopHits [.inl x] (qI (fun S => qHop x S)) := fun h G B hB hb hG => ft_Cw (d_Mo_hopHits hG.1 hb.1) (fun r h' w => ⟨fun k _ => by rw [w.2], _, G, w.1, ⟨rfl, rfl⟩, by rw [w.2]; exact hG⟩)
theorem mS_hardwareSize : mSp k_Mo_hardwareSize [] (qI (fun S => (S.2.2.1.length : Int))) := fun h G B hB hb hG => ft_Cw (d_Mo_hardwareSize hG.1) (fun r h' w => ⟨fun k _ => by rw [w.2], _, G, w.1, ⟨rfl, rfl⟩, by rw [w.2]; exact hG⟩)
theorem mS_hardware {i w : Int} : mSp k_Mo_hardware [.inl i, .inl w] (qL (fun S => qHw i w S)) := fun h G B hB hb hG => ft_Cw (d_Mo_hardware rfl hG.1) (fun r h' w => ⟨fun k _ => by rw [w.2], _, G, w.1, ⟨rfl, rfl⟩, by rw [w.2]; exact hG⟩)
theorem mS_action {x : Int} : mSp k_Mo_action [.inl x] (qI (fun S => actOf S.2.2.1 (pUn x))) := fun h G B hB hb hG => ft_Cw (d_Mo_action hG.1 hb.1) (fun r h' w => ⟨fun k _ => by rw [w.2], _, G, w.1, ⟨rfl, rfl⟩, by rw [w.2]; exact hG⟩)
theorem mS_missed : mSp k_Mo_missed [] (qI (fun S => missS S.2.2.1 S.2.2.2.1)) := fun h G B hB hb hG => ft_Cw (d_Mo_missed hG.1 hb.1) (fun r h' w => ⟨fun k _ => by rw [w.2], _, G, w.1, ⟨rfl, rfl⟩, by rw [w.2]; exact hG⟩)
theorem mS_count {x : Int} : mSp k_Mo_count [.inl x] (qL (fun S => qCnt x S)) := fun h G B hB hb hG => ft_Cw (d_Mo_count hG.1) (fun r h' w => ⟨fun k _ => by rw [w.2], _, G, w.1, ⟨rfl, rfl⟩, by rw [w.2]; exact hG⟩)
theorem mS_route {i w : Int} : mSp k_Mo_route [.inl i, .inl w] (qL (fun S => qRoute i w S)) := fun h G B hB hb hG => ft_Cw (d_Mo_route rfl hG.1 hb.1) (fun r h' w => ⟨fun k _ => by rw [w.2], _, G, w.1, ⟨rfl, rfl⟩, by rw [w.2]; exact hG⟩)
theorem mS_compressed : mSp k_Mo_compressed [] (qI (fun S => ((eOf S).length : Int))) := fun h G B hB hb hG => ft_Cw (d_Mo_compressed hG.1 hb.1 hG.2.1) (fun r h' w => ⟨fun k hk => w.2.1.1 k (by omega), _, G, w.1, ⟨rfl, rfl⟩, mG_q hG w.2.1 w.2.2⟩)
theorem mS_entry {i w : Int} : mSp k_Mo_entry [.inl i, .inl w] (qL (fun S => qEnt i w S)) := fun h G B hB hb hG => ft_Cw (d_Mo_entry hG.1 hb.1 hG.2.1) (fun r h' w => ⟨fun k hk => w.2.1.1 k (by omega), _, G, w.1, ⟨rfl, rfl⟩, mG_q hG w.2.1 w.2.2⟩)
theorem mS_busiest : mSp k_Mo_busiest [] (qI (fun S => bz (hOf S) (eOf S).length)) := fun h G B hB hb hG => ft_Cw (d_Mo_busiest hG.1 hb.1 hG.2.1) (fun r h' w => ⟨fun k hk => w.2.1.1 k (by omega), _, G, w.1, ⟨rfl, rfl⟩, mG_q hG w.2.1 w.2.2⟩)
theorem mS_coldest : mSp k_Mo_coldest [] (qI (fun S => cz (hOf S) (bB S) (eOf S).length)) := fun h G B hB hb hG => ft_Cw (d_Mo_coldest hG.1 hb.1 hG.2.1) (fun r h' w => ⟨fun k hk => w.2.1.1 k (by omega), _, G, w.1, ⟨rfl, rfl⟩, mG_q hG w.2.1 w.2.2⟩)
theorem mS_exceptions : mSp k_Mo_exceptions [] (qI (fun S => exC (tOf S))) := fun h G B hB hb hG => ft_Cw (d_Mo_exceptions hG.1 hb.1 hG.2.1) (fun r h' w => ⟨fun k hk => w.2.1.1 k (by omega), _, G, w.1, ⟨rfl, rfl⟩, mG_q hG w.2.1 w.2.2⟩)
theorem mS_targetSize : mSp k_Mo_targetSize [] (qI (fun S => ((tOf S).length : Int))) := fun h G B hB hb hG => ft_Cw (d_Mo_targetSize hG.1 hb.1 hG.2.1) (fun r h' w => ⟨fun k hk => w.2.1.1 k (by omega), _, G, w.1, ⟨rfl, rfl⟩, mG_q hG w.2.1 w.2.2⟩)
theorem mS_target {i w : Int} : mSp k_Mo_target [.inl i, .inl w] (qL (fun S => qTgt i w S)) := fun h G B hB hb hG => ft_Cw (d_Mo_target hG.1 hb.1 hG.2.1) (fun r h' w => ⟨fun k hk => w.2.1.1 k (by omega), _, G, w.1, ⟨rfl, rfl⟩, mG_q hG w.2.1 w.2.2⟩)
theorem mS_lostHits : mSp k_Mo_lostHits [] (qI (fun S => bL S S.1.toNat)) := fun h G B hB hb hG => ft_Cw (d_Mo_lostHits hG.1 hb.1 hG.2.1) (fun r h' w => ⟨fun k hk => w.2.1.1 k (by omega), _, G, w.1, ⟨rfl, rfl⟩, mG_q hG w.2.1 w.2.2⟩)
theorem mS_lostHitsWith {x : Int} : mSp k_Mo_lostHitsWith [.inl x] (qI (fun S => qLW x S)) := fun h G B hB hb hG => ft_Cw (d_Mo_lostHitsWith hG.1 hb.1 hG.2.1) (fun r h' w => ⟨fun k hk => w.2.1.1 k (by omega), _, G, w.1, ⟨rfl, rfl⟩, mG_q hG w.2.1 w.2.2⟩)
theorem mS_enough : mSp k_Mo_enough [] (qI (fun S => (bP S 60 : Int))) := fun h G B hB hb hG => ft_Cw (d_Mo_enough hG.1 hb.1 hG.2.1) (fun r h' w => ⟨fun k hk => w.2.1.1 k (by omega), _, G, w.1, ⟨rfl, rfl⟩, mG_q hG w.2.1 w.2.2⟩)
theorem mS_changes : mSp k_Mo_changes [] (qI (fun S => ((sP S).length : Int))) := fun h G B hB hb hG => ft_Cw (d_Mo_changes hG.1 (by omega) hb.1 hG.2.1) (fun r h' w => ⟨fun k hk => w.2.1.1 k (by omega), _, G, w.1, ⟨rfl, rfl⟩, mG_w hG w.2.1 w.2.2.1 w.2.2.2⟩)
theorem mS_change {i w : Int} : mSp k_Mo_change [.inl i, .inl w] (qL (fun S => qChg i w S)) := fun h G B hB hb hG => ft_Cw (d_Mo_change hG.1 (by omega) hb.1 hG.2.1) (fun r h' w => ⟨fun k hk => w.2.1.1 k (by omega), _, G, w.1, ⟨rfl, rfl⟩, mG_w hG w.2.1 w.2.2.1 w.2.2.2⟩)
theorem mS_addresses {x : Int} : mSp k_Mo_addresses [.inl x] (qL (fun S => qAdr x S)) := fun h G B hB hb hG => ft_Cw (d_Mo_addresses hG.1 hb.1) (fun r h' w => ⟨fun k _ => by rw [w.2], _, G, w.1, ⟨rfl, rfl⟩, by rw [w.2]; exact hG⟩)
theorem mS_runs : mSp k_Mo_runs [] (qI qRuns) := fun h G B hB hb hG => ft_Cw (d_Mo_runs hG.1 hb.1) (fun r h' w => ⟨fun k _ => by rw [w.2], _, G, w.1, ⟨rfl, rfl⟩, by rw [w.2]; exact hG⟩)
theorem mS_isRedundant {x : Int} : mSp k_Mo_isRedundant [.inl x] (qI (fun S => qRed1 x S)) := fun h G B hB hb hG => ft_Cw (d_Mo_isRedundant hG.1 hb.1) (fun r h' w => ⟨fun k _ => by rw [w.2], _, G, w.1, ⟨rfl, rfl⟩, by rw [w.2]; exact hG⟩)
theorem mS_redundant : mSp k_Mo_redundant [] (qI (fun S => qRed S)) := fun h G B hB hb hG => ft_Cw (d_Mo_redundant hG.1 hb.1) (fun r h' w => ⟨fun k _ => by rw [w.2], _, G, w.1, ⟨rfl, rfl⟩, by rw [w.2]; exact hG⟩)
theorem mS_nesting : mSp k_Mo_nesting [] (qI qNest) := fun h G B hB hb hG => ft_Cw (d_Mo_nesting hG.1 hb.1) (fun r h' w => ⟨fun k _ => by rw [w.2], _, G, w.1, ⟨rfl, rfl⟩, by rw [w.2]; exact hG⟩)
theorem mS_missedAfter {x : Int} : mSp k_Mo_missedAfter [.inl x] (qI (fun S => qMA x S)) := fun h G B hB hb hG => ft_Cw (d_Mo_missedAfter hG.1 (by omega) hb.1 hG.2.1) (fun r h' w => ⟨fun k hk => w.2.1.1 k (by omega), _, G, w.1, ⟨rfl, rfl⟩, mG_w hG w.2.1 w.2.2.1 w.2.2.2⟩)
theorem mS_hardwareAddresses : mSp k_Mo_hardwareAddresses [] (qL (fun S => qHwA S)) := fun h G B hB hb hG => ft_Cw (d_Mo_hardwareAddresses hG.1 hb.1) (fun r h' w => ⟨fun k _ => by rw [w.2], _, G, w.1, ⟨rfl, rfl⟩, by rw [w.2]; exact hG⟩)
theorem mS_compressedWithout {x : Int} : mSp k_Mo_compressedWithout [.inl x] (qI (fun S => qCW x S)) := fun h G B hB hb hG => ft_Cw (d_Mo_compressedWithout hG.1 hb.1 hG.2.1) (fun r h' w => ⟨fun k hk => w.2.1.1 k (by omega), _, G, w.1, ⟨rfl, rfl⟩, mG_w hG w.2.1 w.2.2.1 w.2.2.2⟩)
theorem mS_costliest : mSp k_Mo_costliest [] (qI (fun S => csN (qWo S) S.2.1.length)) := fun h G B hB hb hG => ft_Cw (d_Mo_costliest hG.1 hb.1 hG.2.1) (fun r h' w => ⟨fun k hk => w.2.1.1 k (by omega), _, G, w.1, ⟨rfl, rfl⟩, mG_w hG w.2.1 w.2.2.1 w.2.2.2⟩)
theorem mS_reportLength {x : Int} : mSp k_Mo_reportLength [.inl x] (qI (fun S => qRL x S)) := fun h G B hB hb hG => ft_Cw (d_Mo_reportLength hG.1 hb.1 hG.2.1) (fun r h' w => ⟨fun k hk => w.2.1.1 k (by omega), _, G, w.1, ⟨rfl, rfl⟩, mG_q hG w.2.1 w.2.2⟩)
theorem mS_reportByte {i w : Int} : mSp k_Mo_reportByte [.inl i, .inl w] (qI (fun S => qRB i w S)) := fun h G B hB hb hG => ft_Cw (d_Mo_reportByte hG.1 hb.1 hG.2.1) (fun r h' w => ⟨fun k hk => w.2.1.1 k (by omega), _, G, w.1, ⟨rfl, rfl⟩, mG_q hG w.2.1 w.2.2⟩)
theorem mS_matching {x : Int} : mSp k_Mo_matching [.inl x] (rMat x) := fun h G B hB hb hG => ft_Cw (d_Mo_matching hG.1 hb.1) (fun r h' w => by
  obtain ⟨rfl, z, z1, z2⟩ := w
  exact ⟨fun k _ => rfl, _, G, z2, ⟨⟨z, z1, rfl⟩, rfl⟩, hG⟩)
theorem mS_nextOther {x : Int} : mSp k_Mo_nextOther [.inl x] (rNxt x) := fun h G B hB hb hG => ft_Cw (d_Mo_nextOther hG.1 hb.1) (fun r h' w => by
  obtain ⟨rfl, z, z1, z2⟩ := w
  exact ⟨fun k _ => rfl, _, G, z1, ⟨⟨z, z2, rfl⟩, rfl⟩, hG⟩)
theorem mS_errorPosition : mSp k_Mo_errorPosition [] rErr := fun h G B hB hb hG => ft_Cw d_Mo_errorPosition (fun r h' w => ⟨fun k _ => by rw [w.2], _, G, w.1, ⟨by rw [hG.2.2.2.2], rfl⟩, by rw [w.2]; exact hG⟩)
theorem mS_tapeLength : mSp k_Mo_tapeLength [] rTl := fun h G B hB hb hG => ft_Cw c_Mo_tapeLength (fun r h' w => ⟨fun k _ => by rw [w.2], _, G, w.1, ⟨by rw [hG.2.2.1.1], rfl⟩, by rw [w.2]; exact hG⟩)
theorem mG_tp {h h' : ftH} {G : gS} (hG : mG h G) {T' : List Int} (hT : tpM h' T') (f : ∀ k, k ≠ 309 → k ≠ 330 → h' k = h k) (fj : ∀ j, j ≠ 34 → h' 309 j = h 309 j) : mG h' (G.1, G.2.1, T', G.2.2.2) := by
  refine ⟨mcI_fr hG.1 (f 310 (by omega) (by omega)) (f 311 (by omega) (by omega)) (fj 4 (by omega)), ?_, hT, wds_fr (f 331 (by omega) (by omega)) hG.2.2.2.1, by rw [fj 42 (by omega)]; exact hG.2.2.2.2⟩
  rcases hG.2.1 with q | q
  · exact Or.inl (by rw [fj 20 (by omega)]; exact q)
  · exact Or.inr ⟨enI_fr q.1 (fj 14 (by omega)) (f 318 (by omega) (by omega)) (f 319 (by omega) (by omega)) (f 320 (by omega) (by omega)), fun i hi => by rw [f 321 (by omega) (by omega), f 322 (by omega) (by omega), f 325 (by omega) (by omega)]; exact q.2.1 i hi, by rw [fj 21 (by omega)]; exact q.2.2⟩
theorem mS_append {a b c d e : Int} (ha : ft_in a) (hb' : ft_in b) (hc : ft_in c) (hd : ft_in d) (he : ft_in e) : mSp k_Mo_append [.inl a, .inl b, .inl c, .inl d, .inl e] (tR (aApp a b c d e)) := fun h G B hB hb hG => ft_Cw (d_Mo_append hG.2.2.1 ha hb' hc hd he) (fun r h' w => ⟨fun k hk => w.2.2.1 k (by omega) (by omega), _, _, w.1, ⟨rfl, rfl⟩, mG_tp hG w.2.1 w.2.2.1 w.2.2.2⟩)
theorem mS_truncate {x : Int} : mSp k_Mo_truncate [.inl x] (tR (aTru x)) := fun h G B hB hb hG => ft_Cw (d_Mo_truncate hG.2.2.1) (fun r h' w => ⟨fun k hk => w.2.2.1 k (by omega) (by omega), _, _, w.1, ⟨rfl, rfl⟩, mG_tp hG w.2.1 w.2.2.1 w.2.2.2⟩)
theorem mS_setCapacity {x : Int} : mSp k_Mo_setCapacity [.inl x] (oR (aCap x)) := fun h G B hB hb hG => ft_Cw (d_Mo_setCapacity hG.1 (by omega) hb.1) (fun r h' w => by
  refine ⟨fun k hk => w.2.1 k (by omega) (by omega) (by omega), ?_⟩
  rcases w.2.2 with ⟨es, e⟩ | ⟨S', es, fj, e20, mc⟩
  · exact ⟨_, G, w.1, ⟨rfl, Or.inl ⟨es, rfl⟩⟩, by rw [e]; exact hG⟩
  · exact ⟨_, _, w.1, ⟨rfl, Or.inr ⟨S', es, rfl⟩⟩, mG_op hG w.2.1 fj e20 mc⟩)
theorem mS_addRoute {v l x : Int} (hv : ft_in v) : mSp k_Mo_addRoute [.inl v, .inl l, .inl x] (oR (aAdd v l x)) := fun h G B hB hb hG => ft_Cw (d_Mo_addRoute hG.1 (by omega) hb.1 hv) (fun r h' w => by
  refine ⟨fun k hk => w.2.1 k (by omega) (by omega) (by omega), ?_⟩
  rcases w.2.2 with ⟨es, e⟩ | ⟨S', es, fj, e20, mc⟩
  · exact ⟨_, G, w.1, ⟨rfl, Or.inl ⟨es, rfl⟩⟩, by rw [e]; exact hG⟩
  · exact ⟨_, _, w.1, ⟨rfl, Or.inr ⟨S', es, rfl⟩⟩, mG_op hG w.2.1 fj e20 mc⟩)
theorem mS_removeRoute {v l : Int} (hv : ft_in v) : mSp k_Mo_removeRoute [.inl v, .inl l] (oR (aRem v l)) := fun h G B hB hb hG => ft_Cw (d_Mo_removeRoute hG.1 (by omega) hb.1 hv) (fun r h' w => by
  refine ⟨fun k hk => w.2.1 k (by omega) (by omega) (by omega), ?_⟩
  rcases w.2.2 with ⟨es, e⟩ | ⟨S', es, fj, e20, mc⟩
  · exact ⟨_, G, w.1, ⟨rfl, Or.inl ⟨es, rfl⟩⟩, by rw [e]; exact hG⟩
  · exact ⟨_, _, w.1, ⟨rfl, Or.inr ⟨S', es, rfl⟩⟩, mG_op hG w.2.1 fj e20 mc⟩)
theorem mS_age : mSp k_Mo_age [] (oR (aAge)) := fun h G B hB hb hG => ft_Cw (d_Mo_age hG.1 hb.1) (fun r h' w => by
  refine ⟨fun k hk => w.2.1 k (by omega) (by omega) (by omega), ?_⟩
  rcases w.2.2 with ⟨es, e⟩ | ⟨S', es, fj, e20, mc⟩
  · exact ⟨_, G, w.1, ⟨rfl, Or.inl ⟨es, rfl⟩⟩, by rw [e]; exact hG⟩
  · exact ⟨_, _, w.1, ⟨rfl, Or.inr ⟨S', es, rfl⟩⟩, mG_op hG w.2.1 fj e20 mc⟩)
theorem mS_clear : mSp k_Mo_clear [] (oR (aClr)) := fun h G B hB hb hG => ft_Cw (d_Mo_clear hG.1 (by omega) hb.1) (fun r h' w => by
  refine ⟨fun k hk => w.2.1 k (by omega) (by omega) (by omega), ?_⟩
  rcases w.2.2 with ⟨es, e⟩ | ⟨S', es, fj, e20, mc⟩
  · exact ⟨_, G, w.1, ⟨rfl, Or.inl ⟨es, rfl⟩⟩, by rw [e]; exact hG⟩
  · exact ⟨_, _, w.1, ⟨rfl, Or.inr ⟨S', es, rfl⟩⟩, mG_op hG w.2.1 fj e20 mc⟩)
theorem mS_packet {x n : Int} (hx : ft_in x) : mSp k_Mo_packet [.inl x, .inl n] (rPkt x n) := fun h G B hB hb hG => ft_Cw (d_Mo_packet hG.1 (by omega) hb.1 hx) (fun r h' w => by
  refine ⟨fun k hk => w.1 k (by omega) (by omega) (by omega), ?_⟩
  rcases w.2 with ⟨a, b, c⟩ | ⟨a, b, S', c, fj, e20, mc⟩
  · exact ⟨_, G, b, Or.inl ⟨a, rfl, rfl⟩, by rw [c]; exact hG⟩
  · exact ⟨_, _, b, Or.inr ⟨a, rfl, S', c, rfl⟩, mG_op hG w.1 fj e20 mc⟩)
theorem mS_undo : mSp k_Mo_undo [] rUnd := fun h G B hB hb hG => ft_Cw (d_Mo_undo hG.1) (fun r h' w => by
  rcases w with ⟨a, b, c⟩ | ⟨X, P', a, b, f, fj, e20, mc⟩
  · exact ⟨fun k _ => by rw [c], _, G, b, Or.inl ⟨a, rfl, rfl⟩, by rw [c]; exact hG⟩
  · exact ⟨fun k hk => f k (by omega) (by omega), _, _, b, Or.inr ⟨X, P', a, rfl, rfl⟩, mG_op hG (fun c c1 c2 _ => f c c1 c2) fj e20 mc⟩)
theorem mS_sync {x : Int} : mSp k_Mo_sync [.inl x] (oR (aSync x)) := fun h G B hB hb hG => ft_Cw (d_Mo_sync hG.1 (by omega) hb.1 hG.2.1) (fun r h' w => by
  obtain ⟨w1, f, fj, w3⟩ := w
  refine ⟨fun k hk => f k (by omega), ?_⟩
  rcases w3 with ⟨es, mc, fl⟩ | ⟨S', es, fl, mc⟩
  · exact ⟨_, G, w1, ⟨rfl, Or.inl ⟨es, rfl⟩⟩, mc, fl, tpM_fr (fj 34 (by omega)) (f 330 (by omega)) hG.2.2.1, wds_fr (f 331 (by omega)) hG.2.2.2.1, by rw [fj 42 (by omega)]; exact hG.2.2.2.2⟩
  · exact ⟨_, _, w1, ⟨rfl, Or.inr ⟨S', es, rfl⟩⟩, mc, fl, tpM_fr (fj 34 (by omega)) (f 330 (by omega)) hG.2.2.1, wds_fr (f 331 (by omega)) hG.2.2.2.1, by rw [fj 42 (by omega)]; exact hG.2.2.2.2⟩)
theorem mS_load : mSp k_Mo_load [] rLd := fun h G B hB hb hG => ft_Cw (d_Mo_load ⟨hG.2.2.2.1, hG.2.2.1⟩) (fun r h' w => by
  obtain ⟨w1, f, w3⟩ := w
  refine ⟨fun k hk => f.1 k (by omega) (by omega) (by omega), ?_⟩
  have hw := wds_fr (f.1 331 (by omega) (by omega) (by omega)) hG.2.2.2.1
  rcases w3 with ⟨e, a1, a2, a3, a4, a5, a6⟩ | ⟨x, a1, a2, a3, a4, a5⟩
  · refine ⟨_, _, a2, Or.inl ⟨e, a1, rfl, rfl⟩, mcI_fr hG.1 a4 (f.1 311 (by omega) (by omega) (by omega)) a5, ?_, w1, hw, a3⟩
    rcases hG.2.1 with q | q
    · exact Or.inl (by rw [a6]; exact q)
    · exact Or.inr ⟨enI_fr q.1 (f.2 14 (by omega) (by omega) (by omega)) (f.1 318 (by omega) (by omega) (by omega)) (f.1 319 (by omega) (by omega) (by omega)) (f.1 320 (by omega) (by omega) (by omega)), fun i hi => by rw [f.1 321 (by omega) (by omega) (by omega), f.1 322 (by omega) (by omega) (by omega), f.1 325 (by omega) (by omega) (by omega)]; exact q.2.1 i hi, by rw [f.2 21 (by omega) (by omega) (by omega)]; exact q.2.2⟩
  · exact ⟨_, _, a2, Or.inr ⟨x, a1, rfl, rfl⟩, a5, Or.inl a4, w1, hw, a3⟩)
/-! what a call does is one thing, and the bounds grow by 20000 at most -/
def fnR (Rl : gS → ftV → gS → Prop) : Prop := ∀ G a G' a2 G2, Rl G a G' → Rl G a2 G2 → a = a2 ∧ G' = G2
def bdR (Rl : gS → ftV → gS → Prop) : Prop := ∀ B G a G', 0 ≤ B → gB B G → Rl G a G' → gB (B + 20000) G'
theorem fn_qI {q : ftS → Int} : fnR (qI q) := fun G a G' a2 G2 h1 h2 => ⟨h1.1.trans h2.1.symm, h1.2.trans h2.2.symm⟩
theorem fn_qL {q : ftS → Int} : fnR (qL q) := fun G a G' a2 G2 h1 h2 => ⟨h1.1.trans h2.1.symm, h1.2.trans h2.2.symm⟩
theorem fn_tR {q : List Int → Int × List Int} : fnR (tR q) := fun G a G' a2 G2 h1 h2 => ⟨h1.1.trans h2.1.symm, h1.2.trans h2.2.symm⟩
theorem fn_Err : fnR rErr := fun G a G' a2 G2 h1 h2 => ⟨h1.1.trans h2.1.symm, h1.2.trans h2.2.symm⟩
theorem fn_Tl : fnR rTl := fun G a G' a2 G2 h1 h2 => ⟨h1.1.trans h2.1.symm, h1.2.trans h2.2.symm⟩
theorem fn_oR {o : ftS → Int × Option ftS} : fnR (oR o) := fun G a G' a2 G2 h1 h2 => by
  refine ⟨h1.1.trans h2.1.symm, ?_⟩
  rcases h1.2 with ⟨x1, x2⟩ | ⟨S1, x1, x2⟩ <;> rcases h2.2 with ⟨y1, y2⟩ | ⟨S2, y1, y2⟩
  · rw [x2, y2]
  · rw [x1] at y1; cases y1
  · rw [x1] at y1; cases y1
  · rw [x1] at y1; cases y1; rw [x2, y2]
theorem fn_Mat {x : Int} : fnR (rMat x) := fun G a G' a2 G2 h1 h2 => by
  obtain ⟨⟨z1, a1, rfl⟩, rfl⟩ := h1
  obtain ⟨⟨z2, b1, rfl⟩, rfl⟩ := h2
  rw [isLm_uniq a1 b1]
  exact ⟨rfl, rfl⟩
theorem fn_Nxt {x : Int} : fnR (rNxt x) := fun G a G' a2 G2 h1 h2 => by
  obtain ⟨⟨z1, a1, rfl⟩, rfl⟩ := h1
  obtain ⟨⟨z2, b1, rfl⟩, rfl⟩ := h2
  rw [isNx_uniq a1 b1]
  exact ⟨rfl, rfl⟩
theorem fn_Pkt {x n : Int} : fnR (rPkt x n) := fun G a G' a2 G2 h1 h2 => by
  rcases h1 with ⟨x1, rfl, rfl⟩ | ⟨x1, rfl, S1, x2, rfl⟩ <;> rcases h2 with ⟨y1, rfl, rfl⟩ | ⟨y1, rfl, S2, y2, rfl⟩
  · exact ⟨rfl, rfl⟩
  · exact absurd y1 x1
  · exact absurd x1 y1
  · rw [isPkt_uniq x2 y2]
    exact ⟨rfl, rfl⟩
theorem fn_Und : fnR rUnd := fun G a G' a2 G2 h1 h2 => by
  rcases h1 with ⟨x1, rfl, rfl⟩ | ⟨X, P1, x1, rfl, rfl⟩ <;> rcases h2 with ⟨y1, rfl, rfl⟩ | ⟨Y, P2, y1, rfl, rfl⟩
  · exact ⟨rfl, rfl⟩
  · rw [x1] at y1; cases y1
  · rw [x1] at y1; cases y1
  · rw [x1] at y1; cases y1; exact ⟨rfl, rfl⟩
theorem fn_Ld : fnR rLd := fun G a G' a2 G2 h1 h2 => by
  rcases h1 with ⟨e, x1, rfl, rfl⟩ | ⟨x, x1, rfl, rfl⟩ <;> rcases h2 with ⟨e2, y1, rfl, rfl⟩ | ⟨y, y1, rfl, rfl⟩
  · rw [x1] at y1; cases y1; exact ⟨rfl, rfl⟩
  · rw [x1] at y1; cases y1
  · rw [x1] at y1; cases y1
  · rw [x1] at y1; cases y1; exact ⟨rfl, rfl⟩
theorem bd_same {Rl : gS → ftV → gS → Prop} (h : ∀ G a G', Rl G a G' → G' = G) : bdR Rl := fun B G a G' hB hb hr => by rw [h G a G' hr]; exact gB_mono (by omega) hb
theorem bd_tR {q : List Int → Int × List Int} : bdR (tR q) := fun B G a G' hB hb hr => by
  rw [hr.2]
  exact ⟨sOk_mono (by omega) hb.1, fun X hX => sOk_mono (by omega) (hb.2 X hX)⟩
theorem bd_oR {o : ftS → Int × Option ftS} (ho : ∀ B S S', sOk B S → (o S).2 = some S' → sOk (B + 1000) S') : bdR (oR o) := fun B G a G' hB hb hr => by
  rcases hr.2 with ⟨x1, x2⟩ | ⟨S1, x1, x2⟩
  · rw [x2]; exact gB_mono (by omega) hb
  · rw [x2]
    exact gB_push (B := B) (by omega) hb (sOk_mono (by omega) (ho B G.1 S1 hb.1 x1))
theorem bd_Pkt {x n : Int} : bdR (rPkt x n) := fun B G a G' hB hb hr => by
  rcases hr with ⟨x1, -, rfl⟩ | ⟨x1, -, S1, x2, rfl⟩
  · exact gB_mono (by omega) hb
  · exact gB_push (B := B) (by omega) hb (isPkt_ok hb.1 (pUn_rng x) x1 x2).1
theorem bd_Und : bdR rUnd := fun B G a G' hB hb hr => by
  rcases hr with ⟨x1, -, rfl⟩ | ⟨X, P1, x1, -, rfl⟩
  · exact gB_mono (by omega) hb
  · exact ⟨sOk_mono (by omega) (hb.2 X (by rw [x1]; exact List.mem_cons_self)), fun Y hY => sOk_mono (by omega) (hb.2 Y (by rw [x1]; exact List.mem_cons_of_mem _ hY))⟩
theorem pRs_ok {T : List Int} : ∀ (n : Nat) (Q : List (Int × Int)) (p : Nat) {Q' : List (Int × Int)} {p' : Nat}, p ≤ T.length → qOk Q → pRs T n Q p = .inr (Q', p') → qOk Q' ∧ p' ≤ T.length
  | 0, _, _, _, _, _, _, h => by cases h
  | n + 1, Q, p, Q', p', hp, hq, h => by
    rw [pRs] at h
    split at h
    · cases hr : pRt T Q p with
      | inl e => rw [hr] at h; cases h
      | inr y =>
        rw [hr] at h
        have := pRt_ok hp hq hr
        exact pRs_ok n y.1 y.2 this.2 this.1 h
    · cases h
      exact ⟨hq, hp⟩
theorem pSs_ok {T : List Int} : ∀ (n : Nat) (Q : List (Int × Int)) (p : Nat) {Q' : List (Int × Int)} {p' : Nat}, p ≤ T.length → gOk Q → pSs T n Q p = .inr (Q', p') → gOk Q' ∧ p' ≤ T.length
  | 0, _, _, _, _, _, _, h => by cases h
  | n + 1, Q, p, Q', p', hp, hq, h => by
    rw [pSs] at h
    split at h
    · cases hr : pSe T Q p with
      | inl e => rw [hr] at h; cases h
      | inr y =>
        rw [hr] at h
        have := pSe_ok hp hq hr
        exact pSs_ok n y.1 y.2 this.2 this.1 h
    · cases h
      exact ⟨hq, hp⟩
theorem pLd_ok {T : List Int} {x : Int × List (Int × Int) × List (Int × Int)} (h : pLd T = .inr x) : (1 ≤ x.1 ∧ x.1 ≤ 40) ∧ qOk x.2.1 ∧ gOk x.2.2 := by
  rw [pLd_eq] at h
  split at h
  · split at h
    · next c2 =>
      split at h
      · have p3 : tkE T (tkE T (tkE T 0)) ≤ T.length := tkE_le2 (tkE_le2 (tkE_le2 (Nat.zero_le _)))
        cases hr : pRs T 61 [] (tkE T (tkE T (tkE T 0))) with
        | inl e => rw [hr] at h; cases h
        | inr y =>
          rw [hr] at h
          have hq := pRs_ok 61 [] _ p3 ⟨fun q hq => by simp at hq, List.Pairwise.nil, by simp⟩ hr
          simp only [pF1] at h
          cases hs : pSs T 41 [] y.2 with
          | inl e => rw [hs] at h; cases h
          | inr g =>
            rw [hs] at h
            have hg := pSs_ok 41 [] _ hq.2 ⟨by simp, fun q hq => by simp at hq⟩ hs
            simp only [pF2, pEnd] at h
            split at h
            · cases h
              exact ⟨(nmB_iff.mp c2).2, hq.1, hg.1⟩
            · cases h
      · cases h
    · cases h
  · cases h
theorem bd_Ld : bdR rLd := fun B G a G' hB hb hr => by
  rcases hr with ⟨e, x1, -, rfl⟩ | ⟨x, x1, -, rfl⟩
  · exact ⟨sOk_mono (by omega) hb.1, fun X hX => sOk_mono (by omega) (hb.2 X hX)⟩
  · have := pLd_ok x1
    exact ⟨ldS_ok (by omega) this.1 this.2.1 this.2.2, fun X hX => by simp at hX⟩
