/-! WHAT A CALL DOES TO THE WHOLE STATE: the class -/
def qI (q : ftS → Int) : gS → ftV → gS → Prop := fun G a G' => a = .inl (q G.1) ∧ G' = G
def qL (q : ftS → Int) : gS → ftV → gS → Prop := fun G a G' => a = .inr (.inl (q G.1)) ∧ G' = G
def oR (o : ftS → Int × Option ftS) : gS → ftV → gS → Prop := fun G a G' => a = .inl (o G.1).1 ∧ ((o G.1).2 = none ∧ G' = G ∨ ∃ S', (o G.1).2 = some S' ∧ G' = (S', (G.1 :: G.2.1).take 8, G.2.2.1, G.2.2.2))
def tR (o : List Int → Int × List Int) : gS → ftV → gS → Prop := fun G a G' => a = .inl (o G.2.2.1).1 ∧ G' = (G.1, G.2.1, (o G.2.2.1).2, G.2.2.2)
def rErr : gS → ftV → gS → Prop := fun G a G' => a = .inl G.2.2.2 ∧ G' = G
def rTl : gS → ftV → gS → Prop := fun G a G' => a = .inl (G.2.2.1.length : Int) ∧ G' = G
def rMat (x : Int) : gS → ftV → gS → Prop := fun G a G' => (∃ z, isLm G.1.2.1 (pUn x) z ∧ a = .inl (if z < 0 then -2 else z)) ∧ G' = G
def rNxt (x : Int) : gS → ftV → gS → Prop := fun G a G' => (∃ z, isNx (ansOf G.1.2.1) (pUn x).toNat z ∧ a = .inr (.inl z)) ∧ G' = G
def rPkt (x n : Int) : gS → ftV → gS → Prop := fun G a G' => (¬ (1 ≤ n ∧ n ≤ 9999) ∧ a = .inl (-1) ∧ G' = G) ∨ ((1 ≤ n ∧ n ≤ 9999) ∧ a = .inl (if ansB G.1.2.2.1 (pUn x) = true then 1 else 0) ∧ ∃ S', isPkt (pUn x) n G.1 S' ∧ G' = (S', (G.1 :: G.2.1).take 8, G.2.2.1, G.2.2.2))
def rUnd : gS → ftV → gS → Prop := fun G a G' => (G.2.1 = [] ∧ a = .inl (-1) ∧ G' = G) ∨ ∃ X P', G.2.1 = X :: P' ∧ a = .inl (P'.length : Int) ∧ G' = (X, P', G.2.2.1, G.2.2.2)
def rLd : gS → ftV → gS → Prop := fun G a G' => (∃ e : Nat, pLd G.2.2.1 = .inl e ∧ a = .inl (-1) ∧ G' = (G.1, G.2.1, [], (e : Int))) ∨ ∃ x, pLd G.2.2.1 = .inr x ∧ a = .inl ((ldS x).2.1.length : Int) ∧ G' = (ldS x, [], [], -2)
def cSp (K : ftM) (av : List ftV) (Rl : gS → ftV → gS → Prop) : Prop := ∀ (h : ftH) (G : gS) (B : Int), B ≤ 900000000 → gB B G → cG h G → ft_C K (.inr (.inr 0) :: av) h (fun r h' => (∀ k, 309 ≤ k → h' k = h k) ∧ ∃ a G', r = some a ∧ Rl G a G' ∧ cG h' G')
def mSp (K : ftM) (av : List ftV) (Rl : gS → ftV → gS → Prop) : Prop := ∀ (h : ftH) (G : gS) (B : Int), B ≤ 900000000 → gB B G → mG h G → ft_C K (.inr (.inr 309) :: av) h (fun r h' => (∀ k, k < 309 → h' k = h k) ∧ ∃ a G', r = some a ∧ Rl G a G' ∧ mG h' G')
theorem rcI_fr {h h' : ftH} {S : ftS} (f1 : h' 294 = h 294) (f2 : h' 295 = h 295) (hr : rcI h S) : rcI h' S := by
  unfold rcI rpI sqI at hr ⊢
  rw [f1, f2]
  exact hr
theorem tpC_fr {h h' : ftH} {T : List Int} (f1 : h' 113 = h 113) (f2 : h' 114 = h 114) (hT : tpC h T) : tpC h' T := by
  unfold tpC at hT ⊢
  rw [f1, f2]
  exact hT
theorem cG_s {h h' : ftH} {G : gS} (hG : cG h G) (f : sFr h h') (hc : csI h' G.1) : cG h' G := ⟨sFr_cc hG.1 f, hc, rcI_fr (f.1 294 (by omega)) (f.1 295 (by omega)) hG.2.2.1, tpC_fr (f.1 113 (by omega)) (f.1 114 (by omega)) hG.2.2.2.1, by rw [f.2 4 (by omega)]; exact hG.2.2.2.2⟩
theorem cG_o {h h' : ftH} {G : gS} (hG : cG h G) (f : oFr h h') (hc : csI h' G.1) : cG h' G := ⟨ccI_fr hG.1 (fun k k1 k2 => f.1 k (by omega) (by omega)), hc, rcI_fr (f.1 294 (by omega) (by omega)) (f.1 295 (by omega) (by omega)) hG.2.2.1, tpC_fr (f.1 113 (by omega) (by omega)) (f.1 114 (by omega) (by omega)) hG.2.2.2.1, by rw [f.2 4 (by omega)]; exact hG.2.2.2.2⟩
theorem cG_e {h h' : ftH} {G : gS} (hG : cG h G) (f : eFr h h') : cG h' G := ⟨ccI_fr hG.1 (fun k k1 k2 => f k (by omega)), eFr_cs f hG.2.1, rcI_fr (f 294 (by omega)) (f 295 (by omega)) hG.2.2.1, tpC_fr (f 113 (by omega)) (f 114 (by omega)) hG.2.2.2.1, by rw [f 0 (by omega)]; exact hG.2.2.2.2⟩
theorem cG_h {h h' : ftH} {G : gS} (hG : cG h G) (f : ∀ k, k < 302 ∨ 309 ≤ k → h' k = h k) : cG h' G := ⟨ccI_fr hG.1 (fun k k1 k2 => f k (by omega)), csI_fr (fun k k1 k2 => f k (by omega)) (by rw [f 0 (by omega)]) hG.2.1, rcI_fr (f 294 (by omega)) (f 295 (by omega)) hG.2.2.1, tpC_fr (f 113 (by omega)) (f 114 (by omega)) hG.2.2.2.1, by rw [f 0 (by omega)]; exact hG.2.2.2.2⟩
theorem cG_t {h h' : ftH} {G : gS} (hG : cG h G) (f : tFr h h') (hc : csI h' G.1) (hr : rcI h' G.1) : cG h' G := ⟨ccI_fr hG.1 (fun k k1 k2 => f.1 k (by omega)), hc, hr, tpC_fr (f.1 113 (by omega)) (f.1 114 (by omega)) hG.2.2.2.1, by rw [f.2 4 (by omega)]; exact hG.2.2.2.2⟩
theorem csI_0 {h' : ftH} {S' : ftS} (e : h' 0 5 = 0) : csI h' S' := ⟨by omega, fun q => by omega, fun q => by omega, fun q => by omega, fun q => by omega⟩
theorem cFr_hi {h h' : ftH} (f : cFr h h') : ∀ k, 115 ≤ k → k < 294 → h' k = h k := fun k k1 k2 => f.1 k (by omega) (by omega) (by omega) (by omega)
theorem csI_2 {h h' : ftH} {S S' : ftS} (hc : csI h S) (f : cFr h h') (e : h' 0 5 = min (h 0 5) 2) (es : S'.2.1 = S.2.1) : csI h' S' := by
  obtain ⟨a, b, c, d, g⟩ := hc
  have hf := cFr_hi f
  refine ⟨by omega, fun q => ?_, fun q => ?_, fun q => by omega, fun q => by omega⟩
  · have := lv1_fr (h' := h') (fun c c1 c2 => hf c (by omega) (by omega)) (b (by omega))
    unfold lv1 at this ⊢
    rw [es]
    exact this
  · have := lv2_fr (h' := h') (fun c c1 c2 => hf c (by omega) (by omega)) (c (by omega))
    unfold lv2 eOf at this ⊢
    rw [es]
    exact this
theorem csI_3 {h h' : ftH} {S : ftS} {H : List (Int × Int)} {ct : List Int} (hc : csI h S) (f : cFr h h') (e : h' 0 5 = min (h 0 5) 3) : csI h' (S.1, S.2.1, H, S.2.2.2.1, ct) := by
  obtain ⟨a, b, c, d, g⟩ := hc
  have hf := cFr_hi f
  refine ⟨by omega, fun q => ?_, fun q => ?_, fun q => ?_, fun q => by omega⟩
  · exact lv1_fr (h' := h') (fun c c1 c2 => hf c (by omega) (by omega)) (b (by omega))
  · exact lv2_fr (h' := h') (fun c c1 c2 => hf c (by omega) (by omega)) (c (by omega))
  · exact lv3_fr (h' := h') (fun c c1 c2 => hf c (by omega) (by omega)) (d (by omega))
theorem cG_op {h h' : ftH} {G : gS} (hG : cG h G) (f : cFr h h') {S' : ftS} {P' : List ftS} (e2 : h' 294 2 = -1) (hc : csI h' S') (hI : ccI h' S' P') : cG h' (S', P', G.2.2.1, G.2.2.2) := ⟨hI, hc, Or.inl e2, tpC_fr (f.1 113 (by omega) (by omega) (by omega) (by omega)) (f.1 114 (by omega) (by omega) (by omega) (by omega)) hG.2.2.2.1, by rw [f.2.1 4 (by omega)]; exact hG.2.2.2.2⟩
theorem cFr_309 {h h' : ftH} (f : cFr h h') : ∀ k, 309 ≤ k → h' k = h k := fun k hk => f.1 k (by omega) (by omega) (by omega) (by omega)
theorem c_FT_tapeLength {h : ftH} : ft_C k_FT_tapeLength [.inr (.inr 0)] h (fun r h' => r = some (.inl (h 113 1)) ∧ h' = h) := ft_enter (n := 0) rfl (Nat.le_of_ble_eq_true rfl) rfl (b_FT_tapeLength_0 ⟨rfl, rfl⟩)
theorem c_Mo_tapeLength {h : ftH} : ft_C k_Mo_tapeLength [.inr (.inr 309)] h (fun r h' => r = some (.inl (h 309 34)) ∧ h' = h) := ft_enter (n := 0) rfl (Nat.le_of_ble_eq_true rfl) rfl (b_Mo_tapeLength_0 ⟨rfl, rfl⟩)
theorem cS_capacity : cSp k_FT_capacity [] (qI (fun S => S.1)) := fun h G B hB hb hG => ft_Cw (d_FT_capacity hG.1) (fun r h' w => ⟨fun k _ => by rw [w.2], _, G, w.1, ⟨rfl, rfl⟩, by rw [w.2]; exact hG⟩)
theorem cS_routes : cSp k_FT_routes [] (qI (fun S => (S.2.1.length : Int))) := fun h G B hB hb hG => ft_Cw (d_FT_routes hG.1) (fun r h' w => ⟨fun k _ => by rw [w.2], _, G, w.1, ⟨rfl, rfl⟩, by rw [w.2]; exact hG⟩)
theorem cS_answer {x : Int} : cSp k_FT_answer [.inl x] (qI (fun S => ansOf S.2.1 (pUn x))) := fun h G B hB hb hG => ft_Cw (d_FT_answer hG.1 hb.1) (fun r h' w => ⟨fun k _ => by rw [w.2], _, G, w.1, ⟨rfl, rfl⟩, by rw [w.2]; exact hG⟩)
theorem cS_logged : cSp k_FT_logged [] (qI (fun S => (S.2.2.2.1.length : Int))) := fun h G B hB hb hG => ft_Cw (d_FT_logged hG.1) (fun r h' w => ⟨fun k _ => by rw [w.2], _, G, w.1, ⟨rfl, rfl⟩, by rw [w.2]; exact hG⟩)
theorem cS_log {i w : Int} : cSp k_FT_log [.inl i, .inl w] (qL (fun S => qLog i w S)) := fun h G B hB hb hG => ft_Cw (d_FT_log hG.1) (fun r h' w => ⟨fun k _ => by rw [w.2], _, G, w.1, ⟨rfl, rfl⟩, by rw [w.2]; exact hG⟩)
theorem cS_hopHits {x : Int} : cSp k_FT_hopHits [.inl x] (qI (fun S => qHop x S)) := fun h G B hB hb hG => ft_Cw (d_FT_hopHits hG.1 hb.1) (fun r h' w => ⟨fun k _ => by rw [w.2], _, G, w.1, ⟨rfl, rfl⟩, by rw [w.2]; exact hG⟩)
theorem cS_hardwareSize : cSp k_FT_hardwareSize [] (qI (fun S => (S.2.2.1.length : Int))) := fun h G B hB hb hG => ft_Cw (d_FT_hardwareSize hG.1) (fun r h' w => ⟨fun k _ => by rw [w.2], _, G, w.1, ⟨rfl, rfl⟩, by rw [w.2]; exact hG⟩)
theorem cS_hardware {i w : Int} : cSp k_FT_hardware [.inl i, .inl w] (qL (fun S => qHw i w S)) := fun h G B hB hb hG => ft_Cw (d_FT_hardware hG.1 hb.1) (fun r h' w => ⟨fun k _ => by rw [w.2], _, G, w.1, ⟨rfl, rfl⟩, by rw [w.2]; exact hG⟩)
theorem cS_action {x : Int} : cSp k_FT_action [.inl x] (qI (fun S => actOf S.2.2.1 (pUn x))) := fun h G B hB hb hG => ft_Cw (d_FT_action hG.1 hb.1) (fun r h' w => ⟨fun k _ => by rw [w.2], _, G, w.1, ⟨rfl, rfl⟩, by rw [w.2]; exact hG⟩)
theorem cS_missed : cSp k_FT_missed [] (qI (fun S => missS S.2.2.1 S.2.2.2.1)) := fun h G B hB hb hG => ft_Cw (d_FT_missed hG.1 hb.1) (fun r h' w => ⟨fun k _ => by rw [w.2], _, G, w.1, ⟨rfl, rfl⟩, by rw [w.2]; exact hG⟩)
theorem cS_count {x : Int} : cSp k_FT_count [.inl x] (qL (fun S => qCnt x S)) := fun h G B hB hb hG => ft_Cw (d_FT_count hG.1) (fun r h' w => ⟨fun k _ => by rw [w.2], _, G, w.1, ⟨rfl, rfl⟩, by rw [w.2]; exact hG⟩)
theorem cS_route {i w : Int} : cSp k_FT_route [.inl i, .inl w] (qL (fun S => qRoute i w S)) := fun h G B hB hb hG => ft_Cw (e_FT_route hG.1 hb.1 hG.2.1) (fun r h' w => ⟨fun k hk => w.2.1.1 k (by omega), _, G, w.1, ⟨rfl, rfl⟩, cG_s hG w.2.1 w.2.2⟩)
theorem cS_compressed : cSp k_FT_compressed [] (qI (fun S => ((eOf S).length : Int))) := fun h G B hB hb hG => ft_Cw (d_FT_compressed hG.1 hb.1 hG.2.1) (fun r h' w => ⟨fun k hk => w.2.1.1 k (by omega), _, G, w.1, ⟨rfl, rfl⟩, cG_s hG w.2.1 w.2.2⟩)
theorem cS_entry {i w : Int} : cSp k_FT_entry [.inl i, .inl w] (qL (fun S => qEnt i w S)) := fun h G B hB hb hG => ft_Cw (d_FT_entry hG.1 hb.1 hG.2.1) (fun r h' w => ⟨fun k hk => w.2.1.1 k (by omega), _, G, w.1, ⟨rfl, rfl⟩, cG_s hG w.2.1 w.2.2⟩)
theorem cS_busiest : cSp k_FT_busiest [] (qI (fun S => bz (hOf S) (eOf S).length)) := fun h G B hB hb hG => ft_Cw (d_FT_busiest hG.1 hb.1 hG.2.1) (fun r h' w => ⟨fun k hk => w.2.1.1 k (by omega), _, G, w.1, ⟨rfl, rfl⟩, cG_s hG w.2.1 w.2.2⟩)
theorem cS_coldest : cSp k_FT_coldest [] (qI (fun S => cz (hOf S) (bB S) (eOf S).length)) := fun h G B hB hb hG => ft_Cw (d_FT_coldest hG.1 hb.1 hG.2.1) (fun r h' w => ⟨fun k hk => w.2.1.1 k (by omega), _, G, w.1, ⟨rfl, rfl⟩, cG_s hG w.2.1 w.2.2⟩)
theorem cS_exceptions : cSp k_FT_exceptions [] (qI (fun S => exC (tOf S))) := fun h G B hB hb hG => ft_Cw (d_FT_exceptions hG.1 hb.1 hG.2.1) (fun r h' w => ⟨fun k hk => w.2.1.1 k (by omega), _, G, w.1, ⟨rfl, rfl⟩, cG_s hG w.2.1 w.2.2⟩)
theorem cS_targetSize : cSp k_FT_targetSize [] (qI (fun S => ((tOf S).length : Int))) := fun h G B hB hb hG => ft_Cw (d_FT_targetSize hG.1 hb.1 hG.2.1) (fun r h' w => ⟨fun k hk => w.2.1.1 k (by omega), _, G, w.1, ⟨rfl, rfl⟩, cG_s hG w.2.1 w.2.2⟩)
theorem cS_target {i w : Int} : cSp k_FT_target [.inl i, .inl w] (qL (fun S => qTgt i w S)) := fun h G B hB hb hG => ft_Cw (d_FT_target hG.1 hb.1 hG.2.1) (fun r h' w => ⟨fun k hk => w.2.1.1 k (by omega), _, G, w.1, ⟨rfl, rfl⟩, cG_s hG w.2.1 w.2.2⟩)
theorem cS_lostHits : cSp k_FT_lostHits [] (qI (fun S => bL S S.1.toNat)) := fun h G B hB hb hG => ft_Cw (d_FT_lostHits hG.1 hb.1 hG.2.1) (fun r h' w => ⟨fun k hk => w.2.1.1 k (by omega), _, G, w.1, ⟨rfl, rfl⟩, cG_s hG w.2.1 w.2.2⟩)
theorem cS_lostHitsWith {x : Int} : cSp k_FT_lostHitsWith [.inl x] (qI (fun S => qLW x S)) := fun h G B hB hb hG => ft_Cw (d_FT_lostHitsWith hG.1 hb.1 hG.2.1) (fun r h' w => ⟨fun k hk => w.2.1.1 k (by omega), _, G, w.1, ⟨rfl, rfl⟩, cG_s hG w.2.1 w.2.2⟩)
theorem cS_enough : cSp k_FT_enough [] (qI (fun S => (bP S 60 : Int))) := fun h G B hB hb hG => ft_Cw (d_FT_enough hG.1 hb.1 hG.2.1) (fun r h' w => ⟨fun k hk => w.2.1.1 k (by omega), _, G, w.1, ⟨rfl, rfl⟩, cG_s hG w.2.1 w.2.2⟩)
theorem cS_changes : cSp k_FT_changes [] (qI (fun S => ((sP S).length : Int))) := fun h G B hB hb hG => ft_Cw (d_FT_changes hG.1 hb.1 hG.2.1) (fun r h' w => ⟨fun k hk => w.2.1.1 k (by omega), _, G, w.1, ⟨rfl, rfl⟩, cG_s hG w.2.1 w.2.2⟩)
theorem cS_change {i w : Int} : cSp k_FT_change [.inl i, .inl w] (qL (fun S => qChg i w S)) := fun h G B hB hb hG => ft_Cw (d_FT_change hG.1 hb.1 hG.2.1) (fun r h' w => ⟨fun k hk => w.2.1.1 k (by omega), _, G, w.1, ⟨rfl, rfl⟩, cG_s hG w.2.1 w.2.2⟩)
theorem cS_addresses {x : Int} : cSp k_FT_addresses [.inl x] (qL (fun S => qAdr x S)) := fun h G B hB hb hG => ft_Cw (e_FT_addresses hG.1 hb.1 hG.2.1) (fun r h' w => ⟨fun k hk => w.2.1.1 k (by omega), _, G, w.1, ⟨rfl, rfl⟩, cG_s hG w.2.1 w.2.2⟩)
theorem cS_runs : cSp k_FT_runs [] (qI qRuns) := fun h G B hB hb hG => ft_Cw (e_FT_runs hG.1 hb.1 hG.2.1) (fun r h' w => ⟨fun k hk => w.2.1.1 k (by omega), _, G, w.1, ⟨rfl, rfl⟩, cG_s hG w.2.1 w.2.2⟩)
theorem cS_isRedundant {x : Int} : cSp k_FT_isRedundant [.inl x] (qI (fun S => qRed1 x S)) := fun h G B hB hb hG => ft_Cw (e_FT_isRedundant hG.1 hb.1 hG.2.1) (fun r h' w => ⟨fun k hk => w.2.1.1 k (by omega), _, G, w.1, ⟨rfl, rfl⟩, cG_s hG w.2.1 w.2.2⟩)
theorem cS_redundant : cSp k_FT_redundant [] (qI (fun S => qRed S)) := fun h G B hB hb hG => ft_Cw (e_FT_redundant hG.1 hb.1 hG.2.1) (fun r h' w => ⟨fun k hk => w.2.1.1 k (by omega), _, G, w.1, ⟨rfl, rfl⟩, cG_s hG w.2.1 w.2.2⟩)
theorem cS_nesting : cSp k_FT_nesting [] (qI qNest) := fun h G B hB hb hG => ft_Cw (e_FT_nesting hG.1 hb.1 hG.2.1) (fun r h' w => ⟨fun k hk => w.2.1.1 k (by omega), _, G, w.1, ⟨rfl, rfl⟩, cG_s hG w.2.1 w.2.2⟩)
theorem cS_missedAfter {x : Int} : cSp k_FT_missedAfter [.inl x] (qI (fun S => qMA x S)) := fun h G B hB hb hG => ft_Cw (d_FT_missedAfter hG.1 hb.1 hG.2.1) (fun r h' w => ⟨fun k hk => w.2.1.1 k (by omega) (by omega), _, G, w.1, ⟨rfl, rfl⟩, cG_o hG w.2.1 w.2.2⟩)
theorem cS_hardwareAddresses : cSp k_FT_hardwareAddresses [] (qL (fun S => qHwA S)) := fun h G B hB hb hG => ft_Cw (d_FT_hardwareAddresses hG.1 hb.1) (fun r h' w => ⟨fun k hk => w.2 k (by omega), _, G, w.1, ⟨rfl, rfl⟩, cG_h hG w.2⟩)
theorem cS_compressedWithout {x : Int} : cSp k_FT_compressedWithout [.inl x] (qI (fun S => qCW x S)) := fun h G B hB hb hG => ft_Cw (d_FT_compressedWithout hG.1 hb.1) (fun r h' w => ⟨fun k hk => w.2 k (by omega), _, G, w.1, ⟨rfl, rfl⟩, cG_e hG w.2⟩)
theorem cS_costliest : cSp k_FT_costliest [] (qI (fun S => csN (qWo S) S.2.1.length)) := fun h G B hB hb hG => ft_Cw (d_FT_costliest hG.1 hb.1) (fun r h' w => ⟨fun k hk => w.2 k (by omega), _, G, w.1, ⟨rfl, rfl⟩, cG_e hG w.2⟩)
theorem cS_reportLength {x : Int} : cSp k_FT_reportLength [.inl x] (qI (fun S => qRL x S)) := fun h G B hB hb hG => ft_Cw (d_FT_reportLength hG.1 hb.1 hG.2.1 hG.2.2.1) (fun r h' w => ⟨fun k hk => w.2.1.1 k (by omega), _, G, w.1, ⟨rfl, rfl⟩, cG_t hG w.2.1 w.2.2.1 w.2.2.2⟩)
theorem cS_reportByte {i w : Int} : cSp k_FT_reportByte [.inl i, .inl w] (qI (fun S => qRB i w S)) := fun h G B hB hb hG => ft_Cw (d_FT_reportByte hG.1 hb.1 hG.2.1 hG.2.2.1) (fun r h' w => ⟨fun k hk => w.2.1.1 k (by omega), _, G, w.1, ⟨rfl, rfl⟩, cG_t hG w.2.1 w.2.2.1 w.2.2.2⟩)
theorem cS_matching {x : Int} : cSp k_FT_matching [.inl x] (rMat x) := fun h G B hB hb hG => ft_Cw (d_FT_matching hG.1 hb.1) (fun r h' w => by
  obtain ⟨rfl, z, z1, z2⟩ := w
  exact ⟨fun k _ => rfl, _, G, z2, ⟨⟨z, z1, rfl⟩, rfl⟩, hG⟩)
theorem cS_nextOther {x : Int} : cSp k_FT_nextOther [.inl x] (rNxt x) := fun h G B hB hb hG => ft_Cw (e_FT_nextOther hG.1 hb.1 hG.2.1) (fun r h' w => by
  obtain ⟨⟨f, hc⟩, z, z1, z2⟩ := w
  exact ⟨fun k hk => f.1 k (by omega), _, G, z1, ⟨⟨z, z2, rfl⟩, rfl⟩, cG_s hG f hc⟩)
theorem cS_errorPosition : cSp k_FT_errorPosition [] rErr := fun h G B hB hb hG => ft_Cw d_FT_errorPosition (fun r h' w => ⟨fun k _ => by rw [w.2], _, G, w.1, ⟨by rw [hG.2.2.2.2], rfl⟩, by rw [w.2]; exact hG⟩)
theorem cS_tapeLength : cSp k_FT_tapeLength [] rTl := fun h G B hB hb hG => ft_Cw c_FT_tapeLength (fun r h' w => ⟨fun k _ => by rw [w.2], _, G, w.1, ⟨by rw [hG.2.2.2.1.1], rfl⟩, by rw [w.2]; exact hG⟩)
theorem cG_tp {h h' : ftH} {G : gS} (hG : cG h G) {T' : List Int} (hT : tpC h' T') (f : ∀ k, k ≠ 113 → k ≠ 114 → h' k = h k) : cG h' (G.1, G.2.1, T', G.2.2.2) := ⟨ccI_fr hG.1 (fun k k1 k2 => f k (by omega) (by omega)), csI_fr (fun k k1 k2 => f k (by omega) (by omega)) (by rw [f 0 (by omega) (by omega)]) hG.2.1, rcI_fr (f 294 (by omega) (by omega)) (f 295 (by omega) (by omega)) hG.2.2.1, hT, by rw [f 0 (by omega) (by omega)]; exact hG.2.2.2.2⟩
theorem cS_append {a b c d e : Int} : cSp k_FT_append [.inl a, .inl b, .inl c, .inl d, .inl e] (tR (aApp a b c d e)) := fun h G B hB hb hG => ft_Cw (d_FT_append hG.2.2.2.1) (fun r h' w => ⟨fun k hk => w.2.2.1 k (by omega) (by omega), _, _, w.1, ⟨rfl, rfl⟩, cG_tp hG w.2.1 w.2.2.1⟩)
theorem cS_truncate {x : Int} : cSp k_FT_truncate [.inl x] (tR (aTru x)) := fun h G B hB hb hG => ft_Cw (d_FT_truncate hG.2.2.2.1) (fun r h' w => ⟨fun k hk => w.2.2.1 k (by omega) (by omega), _, _, w.1, ⟨rfl, rfl⟩, cG_tp hG w.2.1 w.2.2.1⟩)
theorem cS_setCapacity {x : Int} : cSp k_FT_setCapacity [.inl x] (oR (aCap x)) := fun h G B hB hb hG => ft_Cw (d_FT_setCapacity hG.1 (by omega) hb.1) (fun r h' w => by
  refine ⟨cFr_309 w.2.1, ?_⟩
  rcases w.2.2 with ⟨es, e⟩ | ⟨S', es, e5, e2, cc⟩
  · exact ⟨_, G, w.1, ⟨rfl, Or.inl ⟨es, rfl⟩⟩, by rw [e]; exact hG⟩
  · have hcs : csI h' S' := csI_2 hG.2.1 w.2.1 e5 (aCap_ok hb.1 es).2
    exact ⟨_, _, w.1, ⟨rfl, Or.inr ⟨S', es, rfl⟩⟩, cG_op hG w.2.1 e2 hcs cc⟩)
theorem cS_addRoute {v l x : Int} : cSp k_FT_addRoute [.inl v, .inl l, .inl x] (oR (aAdd v l x)) := fun h G B hB hb hG => ft_Cw (d_FT_addRoute hG.1 (by omega) hb.1) (fun r h' w => by
  refine ⟨cFr_309 w.2.1, ?_⟩
  rcases w.2.2 with ⟨es, e⟩ | ⟨S', es, e5, e2, cc⟩
  · exact ⟨_, G, w.1, ⟨rfl, Or.inl ⟨es, rfl⟩⟩, by rw [e]; exact hG⟩
  · have hcs : csI h' S' := csI_0 (by rw [e5]; have := hG.2.1.1; omega)
    exact ⟨_, _, w.1, ⟨rfl, Or.inr ⟨S', es, rfl⟩⟩, cG_op hG w.2.1 e2 hcs cc⟩)
theorem cS_removeRoute {v l : Int} : cSp k_FT_removeRoute [.inl v, .inl l] (oR (aRem v l)) := fun h G B hB hb hG => ft_Cw (d_FT_removeRoute hG.1 (by omega) hb.1) (fun r h' w => by
  refine ⟨cFr_309 w.2.1, ?_⟩
  rcases w.2.2 with ⟨es, e⟩ | ⟨S', es, e5, e2, cc⟩
  · exact ⟨_, G, w.1, ⟨rfl, Or.inl ⟨es, rfl⟩⟩, by rw [e]; exact hG⟩
  · have hcs : csI h' S' := csI_0 (by rw [e5]; have := hG.2.1.1; omega)
    exact ⟨_, _, w.1, ⟨rfl, Or.inr ⟨S', es, rfl⟩⟩, cG_op hG w.2.1 e2 hcs cc⟩)
theorem cS_age : cSp k_FT_age [] (oR (aAge)) := fun h G B hB hb hG => ft_Cw (d_FT_age hG.1 hb.1) (fun r h' w => by
  refine ⟨cFr_309 w.2.1, ?_⟩
  rcases w.2.2 with ⟨es, e⟩ | ⟨S', es, e5, e2, cc⟩
  · exact ⟨_, G, w.1, ⟨rfl, Or.inl ⟨es, rfl⟩⟩, by rw [e]; exact hG⟩
  · have hcs : csI h' S' := csI_2 hG.2.1 w.2.1 e5 (aAge_ok hb.1 es).2
    exact ⟨_, _, w.1, ⟨rfl, Or.inr ⟨S', es, rfl⟩⟩, cG_op hG w.2.1 e2 hcs cc⟩)
theorem cS_clear : cSp k_FT_clear [] (oR (aClr)) := fun h G B hB hb hG => ft_Cw (d_FT_clear hG.1 (by omega) hb.1) (fun r h' w => by
  refine ⟨cFr_309 w.2.1, ?_⟩
  rcases w.2.2 with ⟨es, e⟩ | ⟨S', es, e5, e2, cc⟩
  · exact ⟨_, G, w.1, ⟨rfl, Or.inl ⟨es, rfl⟩⟩, by rw [e]; exact hG⟩
  · have hcs : csI h' S' := by
      obtain ⟨H, c, rfl⟩ := (aClr_ok hb.1 es).2
      exact csI_3 hG.2.1 w.2.1 e5
    exact ⟨_, _, w.1, ⟨rfl, Or.inr ⟨S', es, rfl⟩⟩, cG_op hG w.2.1 e2 hcs cc⟩)
theorem cS_packet {x n : Int} : cSp k_FT_packet [.inl x, .inl n] (rPkt x n) := fun h G B hB hb hG => ft_Cw (d_FT_packet hG.1 (by omega) hb.1) (fun r h' w => by
  refine ⟨cFr_309 w.1, ?_⟩
  rcases w.2 with ⟨a, b, c⟩ | ⟨a, b, S', c, e5, e2, cc⟩
  · exact ⟨_, G, b, Or.inl ⟨a, rfl, rfl⟩, by rw [c]; exact hG⟩
  · exact ⟨_, _, b, Or.inr ⟨a, rfl, S', c, rfl⟩, cG_op hG w.1 e2 (csI_2 hG.2.1 w.1 e5 (isPkt_ok hb.1 (pUn_rng x) a c).2) cc⟩)
theorem cS_undo : cSp k_FT_undo [] rUnd := fun h G B hB hb hG => ft_Cw (d_FT_undo hG.1) (fun r h' w => by
  refine ⟨cFr_309 w.1, ?_⟩
  rcases w.2 with ⟨a, b, c⟩ | ⟨X, P', a, b, e5, e2, cc⟩
  · exact ⟨_, G, b, Or.inl ⟨a, rfl, rfl⟩, by rw [c]; exact hG⟩
  · exact ⟨_, _, b, Or.inr ⟨X, P', a, rfl, rfl⟩, cG_op hG w.1 e2 (csI_0 (by rw [e5]; have := hG.2.1.1; omega)) cc⟩)
theorem cS_sync {x : Int} : cSp k_FT_sync [.inl x] (oR (aSync x)) := fun h G B hB hb hG => ft_Cw (d_FT_sync hG.1 (by omega) hb.1 hG.2.1) (fun r h' w => by
  obtain ⟨w1, f, w3⟩ := w
  refine ⟨fun k hk => f.1 k (by omega) (by omega) (by omega) (by omega), ?_⟩
  rcases w3 with ⟨es, g, hc⟩ | ⟨S', es, e5, e2, hc, cc⟩
  · exact ⟨_, G, w1, ⟨rfl, Or.inl ⟨es, rfl⟩⟩, cG_s hG g hc⟩
  · exact ⟨_, _, w1, ⟨rfl, Or.inr ⟨S', es, rfl⟩⟩, cc, hc, Or.inl e2, tpC_fr (f.1 113 (by omega) (by omega) (by omega) (by omega)) (f.1 114 (by omega) (by omega) (by omega) (by omega)) hG.2.2.2.1, by rw [f.2.1 4 (by omega)]; exact hG.2.2.2.2⟩)
theorem cS_load : cSp k_FT_load [] rLd := fun h G B hB hb hG => ft_Cw (d_FT_load hG.1 hG.2.2.2.1) (fun r h' w => by
  obtain ⟨w1, f, f2, w3⟩ := w
  refine ⟨fun k hk => f k (by omega) (by omega) (by omega) (by omega), ?_⟩
  rcases w3 with ⟨e, a1, a2, a3, a4, a5, a6⟩ | ⟨x, a1, a2, a3, a4, a5, a6, a7⟩
  · have e294 : h' 294 = h 294 := funext (fun j => by
      by_cases q : j = 2
      · rw [q]; exact a5
      · exact f2 j q)
    exact ⟨_, _, a2, Or.inl ⟨e, a1, rfl, rfl⟩, a6, csI_fr (fun k k1 k2 => f k (by omega) (by omega) (by omega) (by omega)) a4 hG.2.1, rcI_fr e294 (f 295 (by omega) (by omega) (by omega) (by omega)) hG.2.2.1, w1, a3⟩
  · exact ⟨_, _, a2, Or.inr ⟨x, a1, rfl, rfl⟩, a6, csI_0 (by rw [a4]; have := hG.2.1.1; omega), Or.inl a5, w1, a3⟩)
