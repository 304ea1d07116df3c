/-! READING THE TAPE: the class's readRoute, readSeen -/
def insF (Q : List (Int × Int)) : List (Int × Int) := Q.foldl (fun L q => insK q.1 q.2 L) []
def qOk (Q : List (Int × Int)) : Prop := (∀ q ∈ Q, pK q.1 ∧ 0 ≤ q.2 ∧ q.2 ≤ 15) ∧ Q.Pairwise (fun a b => a.1 ≠ b.1) ∧ Q.length ≤ 60
theorem insF_snoc (Q : List (Int × Int)) (q : Int × Int) : insF (Q ++ [q]) = insK q.1 q.2 (insF Q) := by
  unfold insF
  rw [List.foldl_append]
  rfl
theorem insF_gen : ∀ (Q L : List (Int × Int)), lOk L → (∀ q ∈ Q, pK q.1 ∧ 0 ≤ q.2 ∧ q.2 ≤ 15) → Q.Pairwise (fun a b => a.1 ≠ b.1) → (∀ q ∈ Q, ∀ r ∈ L, r.1 ≠ q.1) → lOk (Q.foldl (fun L q => insK q.1 q.2 L) L) ∧ (Q.foldl (fun L q => insK q.1 q.2 L) L).length = L.length + Q.length ∧ ∀ r, r ∈ Q.foldl (fun L q => insK q.1 q.2 L) L ↔ r ∈ L ∨ r ∈ Q
  | [], L, hL, _, _, _ => ⟨hL, rfl, fun r => by simp⟩
  | q :: Q, L, hL, h1, h2, h3 => by
    have hq := h1 q List.mem_cons_self
    have hne : ∀ r ∈ L, r.1 ≠ q.1 := h3 q List.mem_cons_self
    have hm : ∀ r, r ∈ insK q.1 q.2 L ↔ r = (q.1, q.2) ∨ r ∈ L := fun r => mem_insK hne
    obtain ⟨a, b, c⟩ := insF_gen Q (insK q.1 q.2 L) (insK_ok hq.1 ⟨hq.2.1, by omega⟩ L hL) (fun r hr => h1 r (List.mem_cons_of_mem _ hr)) (List.pairwise_cons.mp h2).2 (fun r hr t ht => by
      rcases (hm t).mp ht with rfl | ht
      · exact (List.pairwise_cons.mp h2).1 r hr
      · exact h3 r (List.mem_cons_of_mem _ hr) t ht)
    rw [List.foldl_cons]
    refine ⟨a, by rw [b, insK_len hne, List.length_cons]; omega, fun r => ?_⟩
    rw [c, hm, List.mem_cons]
    constructor
    · rintro ((rfl | h) | h)
      · exact Or.inr (Or.inl rfl)
      · exact Or.inl h
      · exact Or.inr (Or.inr h)
    · rintro (h | rfl | h)
      · exact Or.inl (Or.inr h)
      · exact Or.inl (Or.inl rfl)
      · exact Or.inr h
theorem insF_ok {Q : List (Int × Int)} (h : qOk Q) : lOk (insF Q) ∧ (insF Q).length = Q.length ∧ ∀ r, r ∈ insF Q ↔ r ∈ Q := by
  obtain ⟨a, b, c⟩ := insF_gen Q [] lOk_nil h.1 h.2.1 (fun _ _ r hr => by cases hr)
  exact ⟨a, by unfold insF; rw [b, List.length_nil, Nat.zero_add], fun r => by unfold insF; rw [c r]; simp⟩
theorem qOk_snoc {Q : List (Int × Int)} (h : qOk Q) {k x : Int} (hk : pK k) (hx : 0 ≤ x ∧ x ≤ 15) (hn : ¬ hasK Q k = true) (hl : Q.length < 60) : qOk (Q ++ [(k, x)]) := by
  refine ⟨fun q hq => ?_, ?_, by rw [List.length_append, List.length_singleton]; omega⟩
  · rcases List.mem_append.mp hq with hq | hq
    · exact h.1 q hq
    · rw [List.mem_singleton] at hq
      rw [hq]
      exact ⟨hk, hx⟩
  · rw [List.pairwise_append]
    refine ⟨h.2.1, List.pairwise_singleton _ _, fun a ha b hb => ?_⟩
    rw [List.mem_singleton] at hb
    rw [hb]
    exact fun e => hn (hasK_iff.mpr ⟨a, ha, e⟩)
def drI (h : ftH) (Q G : List (Int × Int)) : Prop := (ft_ps h 13 ∧ ft_pl h 13 = insF Q) ∧ ft_tw h 19 ∧ ft_pl h 19 = G
def drF (h h' : ftH) : Prop := (∀ c, c ≠ 113 → ¬ (13 ≤ c ∧ c < 16) → ¬ (19 ≤ c ∧ c < 22) → h' c = h c) ∧ ∀ j, j ≤ 1 → h' 113 j = h 113 j
theorem drF_g {h h' : ftH} (f : taG h h') : drF h h' := ⟨fun c c1 _ _ => f.1 c c1, f.2⟩
theorem drF_tr {h g k : ftH} (a : drF h g) (b : drF g k) : drF h k := ⟨fun c c1 c2 c3 => by rw [b.1 c c1 c2 c3, a.1 c c1 c2 c3], fun j hj => by rw [b.2 j hj, a.2 j hj]⟩
theorem drF_tp {h h' : ftH} {T : List Int} (f : drF h h') (hT : tpC h T) : tpC h' T := ⟨by rw [f.2 1 (by omega)]; exact hT.1, hT.2.1, fun j x hx => by rw [f.1 114 (by omega) (by omega) (by omega)]; exact hT.2.2 j x hx⟩
theorem drI_g {h h' : ftH} {Q G : List (Int × Int)} (f : ∀ c, c ≠ 113 → h' c = h c) (hd : drI h Q G) : drI h' Q G := by
  unfold drI ft_ps ft_pl ft_tw at hd ⊢
  rw [f 13 (by omega), f 14 (by omega), f 15 (by omega), f 19 (by omega), f 20 (by omega), f 21 (by omega)]
  exact hd
theorem sh13 : ft_sh 13 = some (.inl 4) := by decide +kernel
theorem sh19 : ft_sh 19 = some (.inl 9) := by decide +kernel
theorem ln14 : ft_ln 14 = 60 := by decide +kernel
theorem drI_n {h : ftH} {Q G : List (Int × Int)} (hd : drI h Q G) (hq : qOk Q) : h 13 2 = (Q.length : Int) := by
  have h1 := ft_pl_len h 13
  rw [hd.1.2, (insF_ok hq).2.1] at h1
  have := hd.1.1.1
  omega
/-- what reading an item leaves -/
def itR (T : List Int) (x : Nat ⊕ (List (Int × Int) × Nat)) (D : ftH → List (Int × Int) → Prop) (h : ftH) (r : Option ftV) (h' : ftH) : Prop := drF h h' ∧ ((∃ e : Nat, x = .inl e ∧ r = some (.inl 0) ∧ h' 113 2 = (e : Int)) ∨ ∃ Q' p', x = .inr (Q', p') ∧ r = some (.inl 1) ∧ tcI h' T p' ∧ p' ≤ T.length ∧ D h' Q')
theorem c_Ta_readRoute {h : ftH} {T : List Int} (hT : tpC h T) {p : Nat} (hp : p ≤ T.length) (hc : tcI h T p) {Q G : List (Int × Int)} (hd : drI h Q G) (hq : qOk Q) : ft_C k_Ta_readRoute [.inr (.inr 113), .inr (.inr 13)] h (itR T (pRt T Q p) (fun h' Q' => drI h' Q' G ∧ qOk Q') h) := by
  have hn := drI_n hd hq
  have rf : drF h h := ⟨fun _ _ _ _ => rfl, fun _ _ => rfl⟩
  refine ft_enter (n := 2) rfl (Nat.le_of_ble_eq_true rfl) rfl (b_Ta_readRoute_0 sh13 ⟨fun c => ⟨_, c_Ta_step hT hc.2.1 (tkE_le2 hp), fun h1 w1 => ?_⟩, fun c => ?_⟩)
  rotate_left
  · unfold pRt
    rw [if_pos (by omega)]
    exact ⟨rf, Or.inl ⟨_, rfl, rfl, hc.1⟩⟩
  obtain ⟨-, f1, c1⟩ := w1
  have p1 := tkE_le2 hp
  have T1 := taF_tp f1 hT
  have ep : pRt T Q p = match pAd T (tkE T p) with
      | .inl e => .inl e
      | .inr q => pRb T Q q.1 q.2 := by unfold pRt; rw [if_neg (by omega)]; cases pAd T (tkE T p) <;> rfl
  rw [ep]
  refine ⟨_, c_Ta_readAddress T1 p1 c1, fun z5 h2 _ w2 => ?_⟩
  obtain ⟨g2, ⟨e, x2, r2, e2⟩ | ⟨v, p4, x2, r2, c2, v2⟩⟩ := w2
  · cases r2
    rw [x2]
    exact ⟨fun c => absurd rfl c, fun _ => ⟨drF_g (taG_tr (taG_f f1) g2), Or.inl ⟨e, rfl, rfl, e2⟩⟩⟩
  cases r2
  rw [x2]
  obtain ⟨hv, p4l⟩ := pAd_rng p1 x2
  have G2 : taG h h2 := taG_tr (taG_f f1) g2
  have T2 := taG_tp G2 hT
  have p5 := tkE_le2 p4l
  have p6 := tkE_le2 p5
  have p7 := tkE_le2 p6
  have p8 := tkE_le2 p7
  have p9 := tkE_le2 p8
  refine ⟨fun _ => ⟨_, c_Ta_step T2 c2.2.1 p5, fun h3 w3 => ?_⟩, fun c => absurd c (by omega)⟩
  obtain ⟨-, f3, c3⟩ := w3
  have T3 := taF_tp f3 T2
  refine ⟨_, c_Ta_take T3 p5 c3, fun z10 h4 _ w4 => ?_⟩
  unfold pRb
  simp only
  rcases w4 with ⟨k4, r4, f4, c4⟩ | ⟨k4, r4, e4⟩
  rotate_left
  · cases r4
    rw [if_neg k4, e4]
    exact ⟨fun _ => ⟨drF_g (taG_tr G2 (taG_f f3)), Or.inl ⟨_, rfl, rfl, c3.1⟩⟩, fun c => absurd rfl c⟩
  cases r4
  rw [if_pos k4]
  have F4 := taF_tr f3 f4
  have G4 : taG h h4 := taG_tr G2 (taG_f F4)
  have T4 := taG_tp G4 hT
  have v4 : h4 113 6 = v := by rw [F4.2 6 (by omega)]; exact v2
  have d4 : drI h4 Q G := drI_g G4.1 hd
  have bad4 : (¬ ((nmB T (tkE T (tkE T p4)) 0 32 = true ∧ v % pSz (tkN T (tkE T (tkE T p4))) = 0) ∧ ¬ hasK Q (64 * v + tkN T (tkE T (tkE T p4))) = true)) → ∀ (X : Nat ⊕ (List (Int × Int) × Nat)) (g : ftH), g = h4 → itR T (if (nmB T (tkE T (tkE T p4)) 0 32 = true ∧ v % pSz (tkN T (tkE T (tkE T p4))) = 0) ∧ ¬ hasK Q (64 * v + tkN T (tkE T (tkE T p4))) = true then X else .inl (tkS T (tkE T (tkE T p4)))) (fun h' Q' => drI h' Q' G ∧ qOk Q') h (some (.inl 0)) g := fun c X g eg => by
    rw [if_neg c, eg]
    exact ⟨drF_g G4, Or.inl ⟨_, rfl, rfl, c4.1⟩⟩
  refine ⟨fun c => absurd c (by omega), fun _ => ⟨fun n => bad4 (fun q => n ?_) _ h4 rfl, fun n => ?_⟩⟩
  · have q := nmB_iff.mp q.1.1
    rw [c4.2.2.1, c4.2.2.2 q.1]
    exact q
  rw [c4.2.2.1] at n
  have k6 := n.1
  rw [c4.2.2.2 k6] at n ⊢
  rw [v4]
  have nb : nmB T (tkE T (tkE T p4)) 0 32 = true := nmB_iff.mpr n
  refine ⟨⟨hv, n.2⟩, fun al => ⟨⟨hv, n.2⟩, fun n17 e17 => ⟨_, c_PS_indexOf sh13 d4.1.1, fun z20 h5 _ w5 => ?_⟩⟩, fun al => bad4 (fun q => al q.1.2) _ h4 rfl⟩
  obtain ⟨rfl, w5⟩ := w5
  have n4 := drI_n d4 hq
  have hin := insF_ok hq
  have hkk : pK n17 := by
    rw [e17]
    refine ⟨⟨by omega, by omega⟩, by omega, ?_⟩
    rw [show (64 * v + tkN T (tkE T (tkE T p4))) / 64 = v by omega, show (64 * v + tkN T (tkE T (tkE T p4))) % 64 = tkN T (tkE T (tkE T p4)) by omega]
    exact al
  rcases w5 with ⟨r5, w5⟩ | ⟨j, r5, j5, w5⟩
  rotate_left
  · cases r5
    refine ⟨fun c => absurd c (by omega), fun _ => bad4 (fun q => q.2 ?_) _ h5 rfl⟩
    rw [hasK_iff, ← e17]
    have := ft_pl_get (h := h5) (a := 13) j5
    rw [d4.1.2] at this
    exact ⟨_, (hin.2.2 _).mp (List.mem_of_getElem? this), w5⟩
  cases r5
  have nk : ¬ hasK Q n17 = true := fun q => by
    obtain ⟨r, hr, er⟩ := hasK_iff.mp q
    have hr2 := (hin.2.2 r).mpr hr
    rw [← d4.1.2] at hr2
    obtain ⟨j, hj⟩ := List.getElem?_of_mem hr2
    have hj2 := (List.getElem?_eq_some_iff.mp hj).1
    rw [ft_pl_len] at hj2
    have hj3 : (j : Int) < h5 13 2 := by omega
    rw [ft_pl_get hj3] at hj
    cases hj
    exact w5 j hj3 er
  have nk' := nk
  rw [e17] at nk'
  rw [if_pos ⟨⟨nb, al⟩, nk'⟩]
  refine ⟨fun _ => ⟨_, c_Ta_step T4 c4.2.1 p7, fun h6 w6 => ?_⟩, fun c => absurd (by omega) c⟩
  obtain ⟨-, f6, c6⟩ := w6
  have T6 := taF_tp f6 T4
  refine ⟨_, c_Ta_take T6 p7 c6, fun z25 h7 _ w7 => ?_⟩
  rcases w7 with ⟨k7, r7, f7, c7⟩ | ⟨k7, r7, e7⟩
  rotate_left
  · cases r7
    rw [if_neg k7, e7]
    exact ⟨fun _ => ⟨drF_g (taG_tr G4 (taG_f f6)), Or.inl ⟨_, rfl, rfl, c6.1⟩⟩, fun c => absurd rfl c⟩
  cases r7
  rw [if_pos k7]
  have G7 : taG h h7 := taG_tr G4 (taG_f (taF_tr f6 f7))
  have T7 := taG_tp G7 hT
  have d7 : drI h7 Q G := drI_g G7.1 hd
  refine ⟨fun c => absurd c (by omega), fun _ => ⟨fun n7 => ?_, fun n7 => ?_⟩⟩
  rotate_left
  · have nb7 : ¬ nmB T (tkE T (tkE T (tkE T (tkE T p4)))) 0 15 = true := fun q => n7 (by
      have q := nmB_iff.mp q
      rw [c7.2.2.1, c7.2.2.2 q.1]
      exact q)
    rw [if_neg nb7]
    exact ⟨drF_g G7, Or.inl ⟨_, rfl, rfl, c7.1⟩⟩
  rw [c7.2.2.1] at n7
  have k8 := n7.1
  rw [c7.2.2.2 k8] at n7 ⊢
  rw [if_pos (nmB_iff.mpr n7)]
  refine ⟨_, c_PS_put sh13 d7.1.1, fun h8 w8 => ?_⟩
  obtain ⟨-, w81, w82, w83, w84⟩ := w8
  have n7' := drI_n d7 hq
  rw [show (13 : Nat) + 1 = 14 from rfl, ln14, n7'] at w83
  have l8 := w83 (Or.inl (by omega))
  rw [d7.1.2, ← insF_snoc Q (n17, tkN T (tkE T (tkE T (tkE T (tkE T p4)))))] at l8
  have q8 := qOk_snoc hq hkk n7.2 nk (by omega)
  have ps8 : ft_ps h8 13 := ft_ps_of w82 (by rw [l8]; exact (insF_ok q8).1)
  have D8 : drF h7 h8 := ⟨fun c c1 c2 c3 => w81 c (by omega), fun j hj => by rw [w81 113 (by omega)]⟩
  have dr8 : drI h8 (Q ++ [(n17, tkN T (tkE T (tkE T (tkE T (tkE T p4)))))]) G := ⟨⟨ps8, l8⟩, by unfold ft_tw; rw [w81 19 (by omega), w81 20 (by omega), w81 21 (by omega)]; exact d7.2.1, by rw [ft_pl_same (w81 19 (by omega)) (w81 20 (by omega)) (w81 21 (by omega))]; exact d7.2.2⟩
  have T8 := drF_tp D8 T7
  refine ⟨_, c_Ta_step (p := tkE T (tkE T (tkE T (tkE T (tkE T p4))))) T8 (by rw [w81 113 (by omega)]; exact c7.2.1) p9, fun h9 w9 => ?_⟩
  obtain ⟨-, f9, c9⟩ := w9
  have T9 := taF_tp f9 T8
  have D9 : drF h h9 := drF_tr (drF_g G7) (drF_tr D8 (drF_g (taG_f f9)))
  refine ⟨_, c_Ta_take T9 p9 c9, fun z34 h10 _ wA => ?_⟩
  rcases wA with ⟨kA, rA, fA, cA⟩ | ⟨kA, rA, eA⟩
  · cases rA
    rw [if_pos kA, ← e17]
    exact ⟨Or.inr rfl, drF_tr D9 (drF_g (taG_f fA)), Or.inr ⟨_, _, rfl, rfl, cA, tkE_le2 p9, drI_g (taF_tr f9 fA).1 dr8, q8⟩⟩
  · cases rA
    rw [if_neg kA, eA]
    exact ⟨Or.inl rfl, D9, Or.inl ⟨_, rfl, rfl, c9.1⟩⟩
theorem c_Ta_readSeen {h : ftH} {T : List Int} (hT : tpC h T) {p : Nat} (hp : p ≤ T.length) (hc : tcI h T p) {Q G : List (Int × Int)} (hd : drI h Q G) : ft_C k_Ta_readSeen [.inr (.inr 113), .inr (.inr 19)] h (itR T (pSe T G p) (fun h' G' => drI h' Q G') h) := by
  have hl := ft_pl_len h 19
  have h40 := hd.2.1.1
  rw [hd.2.2] at hl
  have hn : h 19 2 = (G.length : Int) := by omega
  have rf : drF h h := ⟨fun _ _ _ _ => rfl, fun _ _ => rfl⟩
  refine ft_enter (n := 0) rfl (Nat.le_of_ble_eq_true rfl) rfl (b_Ta_readSeen_0 sh19 ⟨fun c => ⟨_, c_Ta_step hT hc.2.1 (tkE_le2 hp), fun h1 w1 => ?_⟩, fun c => ?_⟩)
  rotate_left
  · unfold pSe
    rw [if_pos (by omega)]
    exact ⟨rf, Or.inl ⟨_, rfl, rfl, hc.1⟩⟩
  obtain ⟨-, f1, c1⟩ := w1
  have p1 := tkE_le2 hp
  have T1 := taF_tp f1 hT
  have ep : pSe T G p = match pAd T (tkE T p) with
      | .inl e => .inl e
      | .inr q => pSb T G q.1 q.2 := by unfold pSe; rw [if_neg (by omega)]; cases pAd T (tkE T p) <;> rfl
  rw [ep]
  refine ⟨_, c_Ta_readAddress T1 p1 c1, fun z5 h2 _ w2 => ?_⟩
  obtain ⟨g2, ⟨e, x2, r2, e2⟩ | ⟨v, p4, x2, r2, c2, v2⟩⟩ := w2
  · cases r2
    rw [x2]
    exact ⟨fun _ => ⟨drF_g (taG_tr (taG_f f1) g2), Or.inl ⟨e, rfl, rfl, e2⟩⟩, fun c => absurd rfl c⟩
  cases r2
  rw [x2]
  obtain ⟨hv, p4l⟩ := pAd_rng p1 x2
  have G2 : taG h h2 := taG_tr (taG_f f1) g2
  have T2 := taG_tp G2 hT
  have d2 : drI h2 Q G := drI_g G2.1 hd
  have p5 := tkE_le2 p4l
  have p6 := tkE_le2 p5
  have p7 := tkE_le2 p6
  refine ⟨fun c => absurd c (by omega), fun _ => ?_⟩
  rw [v2]
  refine ⟨_, c_TL_indexOf sh19 d2.2.1.1, fun z8 h3 _ w3 => ?_⟩
  obtain ⟨rfl, r3, rr3, w3⟩ := w3
  cases rr3
  unfold pSb
  simp only
  have n2 : h3 19 2 = (G.length : Int) := by rw [G2.1 19 (by omega)]; exact hn
  rcases w3 with ⟨rfl, w3⟩ | ⟨j, rfl, j3, w3, -⟩
  rotate_left
  · have hk : hasK G v = true := by
      rw [hasK_iff]
      have := ft_pl_get (h := h3) (a := 19) j3
      rw [d2.2.2] at this
      exact ⟨_, List.mem_of_getElem? this, w3⟩
    rw [if_pos hk]
    exact ⟨fun c => absurd c (by omega), fun _ => ⟨drF_g G2, Or.inl ⟨_, rfl, rfl, c2.1⟩⟩⟩
  have hk : ¬ hasK G v = true := fun q => by
    obtain ⟨r, hr, er⟩ := hasK_iff.mp q
    have := pl_ne (h := h3) (a := 19) (x := v) w3 r (by rw [d2.2.2]; exact hr)
    exact this er
  rw [if_neg hk]
  refine ⟨fun _ => ⟨_, c_Ta_step T2 c2.2.1 p5, fun h4 w4 => ?_⟩, fun c => absurd (by omega) c⟩
  obtain ⟨-, f4, c4⟩ := w4
  have T4 := taF_tp f4 T2
  refine ⟨_, c_Ta_take T4 p5 c4, fun z13 h5 _ w5 => ?_⟩
  rcases w5 with ⟨k5, r5, f5, c5⟩ | ⟨k5, r5, e5⟩
  rotate_left
  · cases r5
    rw [if_neg k5, e5]
    exact ⟨fun _ => ⟨drF_g (taG_tr G2 (taG_f f4)), Or.inl ⟨_, rfl, rfl, c4.1⟩⟩, fun c => absurd rfl c⟩
  cases r5
  rw [if_pos k5]
  have F5 := taF_tr f4 f5
  have G5 : taG h h5 := taG_tr G2 (taG_f F5)
  have T5 := taG_tp G5 hT
  have d5 : drI h5 Q G := drI_g G5.1 hd
  have v5 : h5 113 6 = v := by rw [F5.2 6 (by omega)]; exact v2
  refine ⟨fun c => absurd c (by omega), fun _ => ⟨fun n => ?_, fun n => ?_⟩⟩
  rotate_left
  · have nb : ¬ nmB T (tkE T (tkE T p4)) 1 999 = true := fun q => n (by
      have q := nmB_iff.mp q
      rw [c5.2.2.1, c5.2.2.2 q.1]
      exact q)
    rw [if_neg nb]
    exact ⟨drF_g G5, Or.inl ⟨_, rfl, rfl, c5.1⟩⟩
  rw [c5.2.2.1] at n
  have k6 := n.1
  rw [c5.2.2.2 k6] at n ⊢
  rw [if_pos (nmB_iff.mpr n), v5]
  refine ⟨_, c_TL_see sh19 d5.2.1 hv ⟨n.2.1, by omega⟩, fun h6 w6 => ?_⟩
  obtain ⟨-, w61, w62, w63⟩ := w6
  rw [d5.2.2] at w63
  have l6 : ft_pl h6 19 = G ++ [(v, tkN T (tkE T (tkE T p4)))] := by
    rcases w63 with ⟨pp, q, hq1, hq2, -⟩ | ⟨hn1, ⟨hl1, e⟩ | ⟨hl1, -⟩⟩
    · exact absurd (hasK_iff.mpr ⟨q, List.mem_of_getElem? hq1, hq2⟩) hk
    · exact e
    · omega
  have D6 : drF h5 h6 := ⟨fun c c1 c2 c3 => w61 c (by omega), fun j hj => by rw [w61 113 (by omega)]⟩
  have dr6 : drI h6 Q (G ++ [(v, tkN T (tkE T (tkE T p4)))]) := ⟨by unfold ft_ps; rw [ft_pl_same (w61 13 (by omega)) (w61 14 (by omega)) (w61 15 (by omega)), w61 13 (by omega), w61 14 (by omega), w61 15 (by omega)]; exact d5.1, w62, l6⟩
  have T6 := drF_tp D6 T5
  refine ⟨_, c_Ta_step (p := tkE T (tkE T (tkE T p4))) T6 (by rw [w61 113 (by omega)]; exact c5.2.1) p7, fun h7 w7 => ?_⟩
  obtain ⟨-, f7, c7⟩ := w7
  have T7 := taF_tp f7 T6
  have D7 : drF h h7 := drF_tr (drF_g G5) (drF_tr D6 (drF_g (taG_f f7)))
  refine ⟨_, c_Ta_take T7 p7 c7, fun z22 h8 _ w8 => ?_⟩
  rcases w8 with ⟨k8, r8, f8, c8⟩ | ⟨k8, r8, e8⟩
  · cases r8
    rw [if_pos k8]
    exact ⟨Or.inr rfl, drF_tr D7 (drF_g (taG_f f8)), Or.inr ⟨_, _, rfl, rfl, c8, tkE_le2 p7, drI_g (taF_tr f7 f8).1 dr6⟩⟩
  · cases r8
    rw [if_neg k8, e8]
    exact ⟨Or.inl rfl, D7, Or.inl ⟨_, rfl, rfl, c7.1⟩⟩
