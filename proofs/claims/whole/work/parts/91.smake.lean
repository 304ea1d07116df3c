/-! THE PLAN OF SYNC, THE CLASS: make -/
theorem foR_snoc (C : List ftX) (x : ftX) : foR [] (C ++ [x]) = insR x (foR [] C) := by
  unfold foR
  rw [List.foldl_append]
  rfl
theorem foR_sub {H T : List (Int × Int)} (hH : lOk H) (hT : lOk T) {C : List ftX} (hC : C.Sublist (tgC H T ++ rmC H T)) : (foR [] C).Pairwise ltX ∧ (foR [] C).length = C.length := by
  have := foR_ok (C := C) (l := []) List.Pairwise.nil (fun y hy => absurd hy (by simp)) ((C_pw hH hT).sublist hC)
  exact ⟨this.1, by rw [this.2.2]; simp⟩
theorem tgC_sub {H T : List (Int × Int)} (i : Nat) : (tgC H (T.take i)).Sublist (tgC H T ++ rmC H T) := ((List.take_sublist i T).filterMap _).trans (List.sublist_append_left _ _)
theorem rmC_sub {H T : List (Int × Int)} (i : Nat) : (tgC H T ++ rmC (H.take i) T).Sublist (tgC H T ++ rmC H T) := (List.Sublist.refl _).append ((List.take_sublist i H).filterMap _)
theorem tgC_len {H T : List (Int × Int)} : (tgC H T).length ≤ T.length := List.length_filterMap_le _ _
theorem rmC_len {H T : List (Int × Int)} : (rmC H T).length ≤ H.length := List.length_filterMap_le _ _
theorem tgC_take {H T : List (Int × Int)} {i : Nat} {t : Int × Int} (hi : T[i]? = some t) : tgC H (T.take (i + 1)) = tgC H (T.take i) ++ (tgC1 H t).toList := by
  unfold tgC
  rw [take_succ_get T i _ hi, List.filterMap_append]
  congr 1
theorem rmC_take {H T : List (Int × Int)} {i : Nat} {t : Int × Int} (hi : H[i]? = some t) : rmC (H.take (i + 1)) T = rmC (H.take i) T ++ (rmC1 T t).toList := by
  unfold rmC
  rw [take_succ_get H i _ hi, List.filterMap_append]
  congr 1
theorem rank_sub {k : Int} (hk : pK k) : ft_sub 32 (k % 64) = 32 - k % 64 := by
  have := hk.2.1
  have := hk.1.1
  exact ft_sub_eq (by unfold ft_in; omega)
theorem rank_add {k : Int} (hk : pK k) : ft_add 33 (k % 64) = 33 + k % 64 := by
  have := hk.2.1
  have := hk.1.1
  exact ft_add_eq (by unfold ft_in; omega)
theorem v_SP_make70 {a b : Nat} (ha : ft_sh a = some (.inl 4)) (hb : ft_sh b = some (.inl 4)) {h : ftH} {H T : List (Int × Int)} (hH : lOk H) (hT : lOk T) (lT : T.length ≤ 60) {i : Nat} {t : Int × Int} (hi : T[i]? = some t) (hp : plI h (foR [] (tgC H (T.take i)))) {y : Int} (hy : (y = -1 ∧ ¬ hasK H t.1 = true) ∨ ∃ p : Nat, y = (p : Int) ∧ (p : Int) < ft_ln (a + 2) ∧ H[p]? = some (t.1, h (a + 2) p) ∧ hasK H t.1 = true) {R : Option ftV → ftH → Prop} (hk : ∀ h' : ftH, plI h' (foR [] (tgC H (T.take (i + 1)))) → (∀ c, c < 289 ∨ 294 ≤ c → h' c = h c) → (∀ j, j ≠ 4 → h' 289 j = h 289 j) → ft_V k_SP_make 126 [some (.inr (.inr 289)), some (.inr (.inr a)), some (.inr (.inr b)), none, some (.inl (i : Int)), none, none, none, none] [] h' R) : ft_V k_SP_make 70 [some (.inr (.inr 289)), some (.inr (.inr a)), some (.inr (.inr b)), none, some (.inl (i : Int)), some (.inr (.inl t.1)), none, some (.inl t.2), none] [.inl y] h R := by
  have hi2 := (List.getElem?_eq_some_iff.mp hi).1
  have htk := hT.1 t (List.mem_of_getElem? hi)
  have hs := foR_sub hH hT (tgC_sub (H := H) (T := T) i)
  have hl : (foR [] (tgC H (T.take i))).length < 140 := by
    rw [hs.2]
    have := tgC_len (H := H) (T := T.take i)
    rw [List.length_take] at this
    omega
  rw [tgC_take hi] at hk
  rcases hy with ⟨y1, y2⟩ | ⟨p, y1, y2, y3, y4⟩
  · have e : tgC1 H t = some (32 - t.1 % 64, t.1, 0, t.2) := by unfold tgC1; rw [if_neg y2]
    rw [e] at hk
    refine b_SP_make_70 ha hb ⟨fun c => absurd c (by omega), fun _ => ⟨htk.1.1.1, _, c_SP_add hp hs.1 hl, fun h2 q => hk h2 ?_ q.2.2.1 q.2.2.2⟩⟩
    have := q.2.1
    rw [rank_sub htk.1] at this
    rw [Option.toList_some, foR_snoc]
    exact this
  · refine b_SP_make_70 ha hb ⟨fun _ => ⟨⟨by omega, by omega⟩, fun c => ?_, fun c => ⟨htk.1.1.1, _, c_SP_add hp hs.1 hl, fun h2 q => hk h2 ?_ q.2.2.1 q.2.2.2⟩⟩, fun c => absurd (by omega) c⟩
    · have hm : t ∈ H := by
        rw [y1, Int.toNat_natCast] at c
        rw [c] at y3
        exact List.mem_of_getElem? y3
      have e : tgC1 H t = none := by unfold tgC1; rw [if_pos y4, if_pos hm]
      rw [e, Option.toList_none, List.append_nil] at hk
      exact hk h hp (fun c _ => rfl) (fun j _ => rfl)
    · have hm : t ∉ H := fun q => by
        have := key_eq hH q (List.mem_of_getElem? y3) rfl
        rw [y1, Int.toNat_natCast] at c
        exact c (congrArg Prod.snd this).symm
      have e : tgC1 H t = some (32 - t.1 % 64, t.1, 1, t.2) := by unfold tgC1; rw [if_pos y4, if_neg hm]
      have := q.2.1
      rw [rank_sub htk.1] at this
      rw [e, Option.toList_some, foR_snoc]
      exact this
theorem v_SP_make26 {a b : Nat} (ha : ft_sh a = some (.inl 4)) (hb : ft_sh b = some (.inl 4)) (da : a + 3 ≤ 289 ∨ 294 ≤ a) (db : b + 3 ≤ 289 ∨ 294 ≤ b) {h : ftH} {H H' T : List (Int × Int)} (hH : lOk H') (hT : lOk T) (lT : T.length ≤ 60) (pH : ft_ps h a) (eH : ft_pl h a = H) (pT : ft_ps h b) (eT : ft_pl h b = T) (hf : (h 289 5 = 0 ∧ H' = H) ∨ (h 289 5 = 1 ∧ H' = [])) {R : Option ftV → ftH → Prop} (hk : ∀ h' : ftH, plI h' (foR [] (tgC H' T)) → (∀ c, c < 289 ∨ 294 ≤ c → h' c = h c) → (∀ j, j ≠ 4 → h' 289 j = h 289 j) → ft_V k_SP_make 135 [some (.inr (.inr 289)), some (.inr (.inr a)), some (.inr (.inr b)), none, some (.inl 0), none, none, none, none] [] h' R) : ∀ (m i : Nat) (h1 : ftH), i + m = T.length → plI h1 (foR [] (tgC H' (T.take i))) → (∀ c, c < 289 ∨ 294 ≤ c → h1 c = h c) → (∀ j, j ≠ 4 → h1 289 j = h 289 j) → ft_V k_SP_make 26 [some (.inr (.inr 289)), some (.inr (.inr a)), some (.inr (.inr b)), none, some (.inl (i : Int)), none, none, none, none] [] h1 R := by
  have hHl := pl_len eH pH.1.1
  have hTl := pl_len eT pT.1.1
  have l1 := ft_ln_ps ha
  have l2 := ft_ln_ps hb
  have z1 := pH.1.2
  have z2 := pT.1.2
  intro m
  induction m with
  | zero =>
    intro i h1 hm hp f g
    have e2 : h1 b = h b := f b (by omega)
    refine b_SP_make_26 ha hb ⟨fun _ => hk h1 ?_ f g, fun c => absurd (by rw [e2]; omega) c⟩
    rw [List.take_of_length_le (by omega)] at hp
    exact hp
  | succ m ih =>
    intro i h1 hm hp f g
    have e2 : h1 b = h b := f b (by omega)
    have e3 : h1 (b + 1) = h (b + 1) := f (b + 1) (by omega)
    have e4 : h1 (b + 2) = h (b + 2) := f (b + 2) (by omega)
    have hT1 := pl_at eT (i := (i : Int)) (by omega) (by omega)
    rw [Int.toNat_natCast] at hT1
    refine b_SP_make_26 ha hb ⟨fun c => absurd c (by rw [e2]; omega), fun _ => ⟨⟨by omega, by omega⟩, fun n1 q1 => ⟨⟨by omega, by omega⟩, fun n2 q2 => ?_⟩⟩⟩
    rw [Int.toNat_natCast, e3] at q1
    rw [Int.toNat_natCast, e4] at q2
    rw [← q1, ← q2] at hT1
    have nxt : ∀ (h2 : ftH) (y : Int), h2 = h1 → ((y = -1 ∧ ¬ hasK H' n1 = true) ∨ ∃ p : Nat, y = (p : Int) ∧ (p : Int) < ft_ln (a + 2) ∧ H'[p]? = some (n1, h2 (a + 2) p) ∧ hasK H' n1 = true) → ft_V k_SP_make 70 [some (.inr (.inr 289)), some (.inr (.inr a)), some (.inr (.inr b)), none, some (.inl (i : Int)), some (.inr (.inl n1)), none, some (.inl n2), none] [.inl y] h2 R := by
      intro h2 y e hy
      subst e
      refine v_SP_make70 (t := (n1, n2)) ha hb hH hT lT hT1 hp hy (fun h3 k1 k2 k3 => b_SP_make_126 ha hb ?_)
      rw [inc1 (by omega)]
      exact ih (i + 1) h3 (by omega) k1 (fun c hc => by rw [k2 c hc, f c hc]) (fun j hj => by rw [k3 j hj, g j hj])
    have pH1 := ps_fr (h := h) (h' := h1) (a := a) (fun c c1 c2 => f c (by omega)) ⟨pH, eH⟩
    have e5 := g 5 (by omega)
    refine ⟨fun c => ⟨_, c_PS_indexOf ha pH1.1, fun z h2 _ hw => ?_⟩, fun c => nxt h1 (-1) rfl (Or.inl ⟨rfl, ?_⟩)⟩
    · obtain ⟨rfl, hw⟩ := hw
      rcases hf with ⟨f1, f2⟩ | ⟨f1, -⟩
      · refine nxt h2 z rfl ?_
        rw [f2]
        rcases idx_has pH1.1 pH1.2 hw with ⟨r1, r2⟩ | ⟨p, r1, r2, r3, r4⟩
        · exact Or.inl ⟨injI r1, r2⟩
        · exact Or.inr ⟨p, injI r1, by omega, r3, r4⟩
      · rw [e5, f1] at c
        exact absurd c (by omega)
    · rcases hf with ⟨f1, -⟩ | ⟨-, f2⟩
      · rw [e5, f1] at c
        exact absurd rfl c
      · rw [f2]
        simp [hasK]
theorem v_SP_make135 {a b : Nat} (ha : ft_sh a = some (.inl 4)) (hb : ft_sh b = some (.inl 4)) (da : a + 3 ≤ 289 ∨ 294 ≤ a) (db : b + 3 ≤ 289 ∨ 294 ≤ b) {h : ftH} {H T : List (Int × Int)} (hH : lOk H) (hT : lOk T) (lT : T.length ≤ 60) (pH : ft_ps h a) (eH : ft_pl h a = H) (pT : ft_ps h b) (eT : ft_pl h b = T) (hf : h 289 5 = 0) {R : Option ftV → ftH → Prop} (hk : ∀ h' : ftH, plI h' (plL H T) → (∀ c, c < 289 ∨ 294 ≤ c → h' c = h c) → (∀ j, j ≠ 4 → h' 289 j = h 289 j) → R none h') : ∀ (m i : Nat) (h1 : ftH), i + m = H.length → plI h1 (foR [] (tgC H T ++ rmC (H.take i) T)) → (∀ c, c < 289 ∨ 294 ≤ c → h1 c = h c) → (∀ j, j ≠ 4 → h1 289 j = h 289 j) → ft_V k_SP_make 135 [some (.inr (.inr 289)), some (.inr (.inr a)), some (.inr (.inr b)), none, some (.inl (i : Int)), none, none, none, none] [] h1 R := by
  have hHl := pl_len eH pH.1.1
  have hTl := pl_len eT pT.1.1
  have l1 := ft_ln_ps ha
  have l2 := ft_ln_ps hb
  have z1 := pH.1.2
  have z2 := pT.1.2
  intro m
  induction m with
  | zero =>
    intro i h1 hm hp f g
    have e2 : h1 a = h a := f a (by omega)
    refine b_SP_make_135 ha hb ⟨fun _ => hk h1 ?_ f g, fun c => absurd (by rw [e2]; omega) c⟩
    rw [List.take_of_length_le (by omega)] at hp
    exact hp
  | succ m ih =>
    intro i h1 hm hp f g
    have e2 : h1 a = h a := f a (by omega)
    have e3 : h1 (a + 1) = h (a + 1) := f (a + 1) (by omega)
    have e4 : h1 (a + 2) = h (a + 2) := f (a + 2) (by omega)
    have hH1 := pl_at eH (i := (i : Int)) (by omega) (by omega)
    rw [Int.toNat_natCast] at hH1
    have pT1 := ps_fr (h := h) (h' := h1) (a := b) (fun c c1 c2 => f c (by omega)) ⟨pT, eT⟩
    have e5 := g 5 (by omega)
    have nxt : ∀ h3 : ftH, plI h3 (foR [] (tgC H T ++ rmC (H.take (i + 1)) T)) → (∀ c, c < 289 ∨ 294 ≤ c → h3 c = h1 c) → (∀ j, j ≠ 4 → h3 289 j = h1 289 j) → ft_V k_SP_make 191 [some (.inr (.inr 289)), some (.inr (.inr a)), some (.inr (.inr b)), none, some (.inl (i : Int)), none, none, none, none] [] h3 R := fun h3 k1 k2 k3 => by
      refine b_SP_make_191 ha hb ?_
      rw [inc1 (by omega)]
      exact ih (i + 1) h3 (by omega) k1 (fun c hc => by rw [k2 c hc, f c hc]) (fun j hj => by rw [k3 j hj, g j hj])
    have hs := foR_sub hH hT (rmC_sub (H := H) (T := T) i)
    have hl : (foR [] (tgC H T ++ rmC (H.take i) T)).length < 140 := by
      rw [hs.2, List.length_append]
      have h8 := tgC_len (H := H) (T := T)
      have h9 := rmC_len (H := H.take i) (T := T)
      rw [List.length_take] at h9
      omega
    refine b_SP_make_135 ha hb ⟨fun c => absurd c (by rw [e2]; omega), fun _ => ⟨fun c => absurd (by rw [e5, hf]) c, fun _ => ⟨⟨by omega, by omega⟩, fun n1 q1 => ⟨_, c_PS_indexOf hb pT1.1, fun z h2 _ hw => ?_⟩⟩⟩⟩
    obtain ⟨rfl, hw⟩ := hw
    rw [Int.toNat_natCast, e3] at q1
    rw [← q1] at hH1
    have htk := hH.1 _ (List.mem_of_getElem? hH1)
    rw [rmC_take hH1, ← List.append_assoc] at nxt
    rcases idx_has pT1.1 pT1.2 hw with ⟨r1, r2⟩ | ⟨p, r1, r2, r3, r4⟩
    · have hz := injI r1
      subst hz
      have e : rmC1 T (n1, h (a + 2) i) = some (33 + n1 % 64, n1, 2, h (a + 2) i) := by unfold rmC1; rw [if_neg r2]
      rw [e, Option.toList_some, foR_snoc] at nxt
      refine ⟨fun c => absurd c (by omega), fun _ => ⟨htk.1.1.1, ⟨by omega, by omega⟩, _, c_SP_add hp hs.1 hl, fun h3 q => nxt h3 ?_ q.2.2.1 q.2.2.2⟩⟩
      have := q.2.1
      rw [rank_add htk.1, Int.toNat_natCast, e4] at this
      exact this
    · have hz := injI r1
      subst hz
      have e : rmC1 T (n1, h (a + 2) i) = none := by unfold rmC1; rw [if_pos r4]
      rw [e, Option.toList_none, List.append_nil] at nxt
      exact ⟨fun _ => nxt h2 hp (fun c _ => rfl) (fun j _ => rfl), fun c => absurd (by omega) c⟩
/-- the list that the plan begins at -/
def plH (H T : List (Int × Int)) (room : Int) : List (Int × Int) := if (togC H T : Int) ≤ room then H else []
theorem plL_nil {T : List (Int × Int)} : plL [] T = foR [] (tgC [] T) := by
  unfold plL
  rw [show rmC [] T = [] from rfl, List.append_nil]
theorem c_SP_make {a b : Nat} (ha : ft_sh a = some (.inl 4)) (hb : ft_sh b = some (.inl 4)) (da : a + 3 ≤ 289 ∨ 294 ≤ a) (db : b + 3 ≤ 289 ∨ 294 ≤ b) {h : ftH} {H T : List (Int × Int)} (lT : T.length ≤ 60) (pH : ft_ps h a) (eH : ft_pl h a = H) (pT : ft_ps h b) (eT : ft_pl h b = T) {room : Int} : ft_C k_SP_make [.inr (.inr 289), .inr (.inr a), .inr (.inr b), .inl room] h (fun r h' => r = none ∧ plI h' (plL (plH H T room) T) ∧ h' 289 5 = (if (togC H T : Int) ≤ room then 0 else 1) ∧ (∀ c, c < 289 ∨ 294 ≤ c → h' c = h c) ∧ ∀ j, j ≠ 4 → j ≠ 5 → h' 289 j = h 289 j) := by
  have hH : lOk H := by rw [← eH]; exact ft_ps_list pH
  have hT : lOk T := by rw [← eT]; exact ft_ps_list pT
  refine ft_enter (n := 5) rfl (Nat.le_of_ble_eq_true rfl) rfl (b_SP_make_0 ha hb (fun h1 e1 => ?_))
  have f1 : ∀ c, c ≠ 289 → h1 c = h c := fun c hc => by rw [e1, ft_hs_ne c hc]
  have pH1 := ps_fr (h := h) (h' := h1) (a := a) (fun c c1 c2 => f1 c (by omega)) ⟨pH, eH⟩
  have pT1 := ps_fr (h := h) (h' := h1) (a := b) (fun c c1 c2 => f1 c (by omega)) ⟨pT, eT⟩
  refine ⟨_, c_SP_tog ha hb pH1.1 pH1.2 pT1.1 pT1.2, fun z h2 _ hw => ?_⟩
  obtain ⟨hz, rfl⟩ := hw
  have hz := injI hz
  subst hz
  have go : ∀ (f : Int) (H' : List (Int × Int)) (h3 : ftH), (f = 0 ∧ H' = H) ∨ (f = 1 ∧ H' = []) → h3 = ft_hs h2 289 5 f → f = (if (togC H T : Int) ≤ room then 0 else 1) → plH H T room = H' → ft_V k_SP_make 26 [some (.inr (.inr 289)), some (.inr (.inr a)), some (.inr (.inr b)), none, some (.inl ((0 : Nat) : Int)), none, none, none, none] [] h3 (fun r h' => r = none ∧ plI h' (plL (plH H T room) T) ∧ h' 289 5 = (if (togC H T : Int) ≤ room then 0 else 1) ∧ (∀ c, c < 289 ∨ 294 ≤ c → h' c = h c) ∧ ∀ j, j ≠ 4 → j ≠ 5 → h' 289 j = h 289 j) := by
    intro f H' h3 hf e3 hfe hpe
    have f3 : ∀ c, c ≠ 289 → h3 c = h c := fun c hc => by rw [e3, ft_hs_ne c hc, f1 c hc]
    have g5 : h3 289 5 = f := by rw [e3, ft_hs_same]
    have g4 : h3 289 4 = 0 := by rw [e3, ft_hs_j (by omega), e1, ft_hs_same]
    have gj : ∀ j, j ≠ 4 → j ≠ 5 → h3 289 j = h 289 j := fun j j1 j2 => by rw [e3, ft_hs_j j2, e1, ft_hs_j j1]
    have pH3 := ps_fr (h := h) (h' := h3) (a := a) (fun c c1 c2 => f3 c (by omega)) ⟨pH, eH⟩
    have pT3 := ps_fr (h := h) (h' := h3) (a := b) (fun c c1 c2 => f3 c (by omega)) ⟨pT, eT⟩
    have fin : ∀ h' : ftH, plI h' (plL H' T) → (∀ c, c < 289 ∨ 294 ≤ c → h' c = h3 c) → (∀ j, j ≠ 4 → h' 289 j = h3 289 j) → (none : Option ftV) = none ∧ plI h' (plL (plH H T room) T) ∧ h' 289 5 = (if (togC H T : Int) ≤ room then 0 else 1) ∧ (∀ c, c < 289 ∨ 294 ≤ c → h' c = h c) ∧ ∀ j, j ≠ 4 → j ≠ 5 → h' 289 j = h 289 j := fun h' k1 k2 k3 => by
      refine ⟨rfl, by rw [hpe]; exact k1, by rw [k3 5 (by omega), g5, hfe], fun c hc => by rw [k2 c hc, f3 c (by omega)], fun j j1 j2 => by rw [k3 j j1, gj j j1 j2]⟩
    refine v_SP_make26 (H := H) (H' := H') ha hb da db ?_ hT lT pH3.1 pH3.2 pT3.1 pT3.2 (by rw [g5]; exact hf) (fun h' k1 k2 k3 => ?_) T.length 0 h3 (by omega) ⟨by rw [g4]; rfl, rfl⟩ (fun c _ => rfl) (fun j _ => rfl)
    · rcases hf with q | q
      · rw [q.2]; exact hH
      · rw [q.2]; exact ⟨fun q hq => by simp at hq, List.Pairwise.nil⟩
    · have pH4 := ps_fr (h := h3) (h' := h') (a := a) (fun c c1 c2 => k2 c (by omega)) pH3
      have pT4 := ps_fr (h := h3) (h' := h') (a := b) (fun c c1 c2 => k2 c (by omega)) pT3
      have k5 := k3 5 (by omega)
      rw [g5] at k5
      rcases hf with ⟨q1, q2⟩ | ⟨q1, q2⟩
      · subst q2
        refine v_SP_make135 (H := H') ha hb da db hH hT lT pH4.1 pH4.2 pT4.1 pT4.2 (by rw [k5, q1]) (fun h4 s1 s2 s3 => fin h4 s1 (fun c hc => by rw [s2 c hc, k2 c hc]) (fun j hj => by rw [s3 j hj, k3 j hj])) H'.length 0 h' (by omega) (by rw [List.take_zero, show rmC [] T = [] from rfl, List.append_nil]; exact k1) (fun c _ => rfl) (fun j _ => rfl)
      · rw [q2, ← plL_nil] at k1
        rw [q2] at fin
        exact b_SP_make_135 ha hb ⟨fun _ => fin h' k1 k2 k3, fun _ => ⟨fun _ => fin h' k1 k2 k3, fun c => absurd c (by rw [k5, q1]; omega)⟩⟩
  refine ⟨fun c => b_SP_make_20 ha hb ⟨Or.inl rfl, fun h3 e3 => go 0 H h3 (Or.inl ⟨rfl, rfl⟩) e3 (by rw [if_pos c]) (by unfold plH; rw [if_pos c])⟩, fun c => b_SP_make_20 ha hb ⟨Or.inr rfl, fun h3 e3 => go 1 [] h3 (Or.inr ⟨rfl, rfl⟩) e3 (by rw [if_neg c]) (by unfold plH; rw [if_neg c])⟩⟩
