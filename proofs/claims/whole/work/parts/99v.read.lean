/-! READING THE TAPE: the class's readInto and load -/
def pF2 (T : List Int) (c : Int) (Q : List (Int × Int)) (y : Nat ⊕ (List (Int × Int) × Nat)) : Nat ⊕ (Int × List (Int × Int) × List (Int × Int)) := match y with
  | .inl e => .inl e
  | .inr g => pEnd T c Q g.1 g.2
def pF1 (T : List Int) (c : Int) (x : Nat ⊕ (List (Int × Int) × Nat)) : Nat ⊕ (Int × List (Int × Int) × List (Int × Int)) := match x with
  | .inl e => .inl e
  | .inr q => pF2 T c q.1 (pSs T 41 [] q.2)
theorem pLd_eq (T : List Int) : pLd T = if tkK T 0 = 3 then (if nmB T (tkE T 0) 1 40 = true then (if tkK T (tkE T (tkE T 0)) = 59 then pF1 T (tkN T (tkE T 0)) (pRs T 61 [] (tkE T (tkE T (tkE T 0)))) else .inl (tkS T (tkE T (tkE T 0)))) else .inl (tkS T (tkE T 0))) else .inl (tkS T 0) := by
  unfold pLd pF1 pF2
  congr 3
theorem pRb_len {T : List Int} {Q Q' : List (Int × Int)} {v : Int} {p p' : Nat} (h : pRb T Q v p = .inr (Q', p')) : Q'.length = Q.length + 1 := by
  unfold pRb at h
  (repeat' split at h) <;> cases h
  rw [List.length_append, List.length_singleton]
theorem pRt_len {T : List Int} {Q Q' : List (Int × Int)} {p p' : Nat} (h : pRt T Q p = .inr (Q', p')) : Q'.length = Q.length + 1 := by
  unfold pRt at h
  split at h
  · cases h
  · split at h
    · cases h
    · exact pRb_len h
theorem pSb_len {T : List Int} {Q Q' : List (Int × Int)} {v : Int} {p p' : Nat} (h : pSb T Q v p = .inr (Q', p')) : Q'.length = Q.length + 1 := by
  unfold pSb at h
  (repeat' split at h) <;> cases h
  rw [List.length_append, List.length_singleton]
theorem pSe_len {T : List Int} {Q Q' : List (Int × Int)} {p p' : Nat} (h : pSe T Q p = .inr (Q', p')) : Q'.length = Q.length + 1 := by
  unfold pSe at h
  split at h
  · cases h
  · split at h
    · cases h
    · exact pSb_len h
def drH (h h' : ftH) : Prop := (∀ c, c ≠ 113 → ¬ (12 ≤ c ∧ c < 16) → ¬ (19 ≤ c ∧ c < 22) → h' c = h c) ∧ ∀ j, j ≤ 1 → h' 113 j = h 113 j
theorem drH_f {h h' : ftH} (f : drF h h') : drH h h' := ⟨fun c c1 c2 c3 => f.1 c c1 (by omega) c3, f.2⟩
theorem drH_tr {h g k : ftH} (a : drH h g) (b : drH g k) : drH h k := ⟨fun c c1 c2 c3 => by rw [b.1 c c1 c2 c3, a.1 c c1 c2 c3], fun j hj => by rw [b.2 j hj, a.2 j hj]⟩
theorem drH_tp {h h' : ftH} {T : List Int} (f : drH h h') (hT : tpC h T) : tpC h' T := ⟨by rw [f.2 1 (by omega)]; exact hT.1, hT.2.1, fun j x hx => by rw [f.1 114 (by omega) (by omega) (by omega)]; exact hT.2.2 j x hx⟩
/-- what reading the text leaves -/
def ldR (x : Nat ⊕ (Int × List (Int × Int) × List (Int × Int))) (h : ftH) (r : Option ftV) (h' : ftH) : Prop := drH h h' ∧ ((∃ e : Nat, x = .inl e ∧ r = some (.inl 0) ∧ h' 113 2 = (e : Int)) ∨ ∃ c Q G, x = .inr (c, Q, G) ∧ r = some (.inl 1) ∧ (1 ≤ c ∧ c ≤ 40) ∧ h' 12 0 = c ∧ drI h' Q G ∧ qOk Q)
theorem v_Ta_ri89 {h : ftH} {T : List Int} (hT : tpC h T) {c : Int} (hcap : 1 ≤ c ∧ c ≤ 40) {Q : List (Int × Int)} (hq : qOk Q) : ∀ (n i : Nat) (G : List (Int × Int)) (p : Nat) (g : ftH), i + n = 41 → G.length = i → p ≤ T.length → tcI g T p → drH h g → drI g Q G → g 12 0 = c → ft_V k_Ta_readInto 89 [some (.inr (.inr 113)), some (.inr (.inr 12)), some (.inl (i : Int))] [] g (ldR (pF2 T c Q (pSs T n G p)) h) := by
  intro n
  induction n with
  | zero =>
    intro i G p g hi hl hp hc f hd e12
    have h1 := ft_pl_len g 19
    rw [hd.2.2] at h1
    have := hd.2.1.1
    omega
  | succ n ih =>
    intro i G p g hi hl hp hc f hd e12
    have hT' := drH_tp f hT
    refine b_Ta_readInto_89 sh_12 ⟨fun c => absurd c (by omega), fun _ => ?_⟩
    rw [hc.2.2.1, pSs]
    refine ⟨fun k6 => ?_, fun k6 => ⟨_, c_Ta_readSeen hT' hp hc hd, fun z3 g1 _ w => ?_⟩⟩
    · rw [if_neg k6, pF2]
      unfold pEnd
      refine ⟨fun k0 => ?_, fun k0 => ?_⟩
      · rw [if_neg k0]
        exact ⟨f, Or.inl ⟨_, rfl, rfl, hc.1⟩⟩
      · rw [if_pos k0]
        exact ⟨f, Or.inr ⟨c, Q, G, rfl, rfl, hcap, e12, hd, hq⟩⟩
    · rw [if_pos k6]
      obtain ⟨f1, ⟨e, x1, r1, e1⟩ | ⟨G', p', x1, r1, c1, p1, d1⟩⟩ := w
      · cases r1
        rw [x1]
        exact ⟨fun c => absurd rfl c, fun _ => ⟨drH_tr f (drH_f f1), Or.inl ⟨e, rfl, rfl, e1⟩⟩⟩
      · cases r1
        rw [x1]
        have hl' := pSe_len x1
        refine ⟨fun _ => ?_, fun c => absurd c (by omega)⟩
        rw [inc1 (by omega)]
        exact ih (i + 1) G' p' g1 (by omega) (by omega) p1 c1 (drH_tr f (drH_f f1)) d1 (by rw [f1.1 12 (by omega) (by omega) (by omega)]; exact e12)
theorem v_Ta_ri54 {h : ftH} {T : List Int} (hT : tpC h T) {c : Int} (hcap : 1 ≤ c ∧ c ≤ 40) : ∀ (n i : Nat) (Q : List (Int × Int)) (p : Nat) (g : ftH), i + n = 61 → Q.length = i → p ≤ T.length → tcI g T p → drH h g → drI g Q [] → qOk Q → g 12 0 = c → ft_V k_Ta_readInto 54 [some (.inr (.inr 113)), some (.inr (.inr 12)), some (.inl (i : Int))] [] g (ldR (pF1 T c (pRs T n Q p)) h) := by
  intro n
  induction n with
  | zero =>
    intro i Q p g hi hl hp hc f hd hq e12
    have := hq.2.2
    omega
  | succ n ih =>
    intro i Q p g hi hl hp hc f hd hq e12
    have hT' := drH_tp f hT
    refine b_Ta_readInto_54 sh_12 ⟨fun c => absurd c (by omega), fun _ => ?_⟩
    rw [hc.2.2.1, pRs]
    refine ⟨fun k4 => ?_, fun k4 => ⟨_, c_Ta_readRoute hT' hp hc hd hq, fun z3 g1 _ w => ?_⟩⟩
    · rw [if_neg k4, pF1]
      exact v_Ta_ri89 hT hcap hq 41 0 [] p g (by omega) rfl hp hc f hd e12
    · rw [if_pos k4]
      obtain ⟨f1, ⟨e, x1, r1, e1⟩ | ⟨Q', p', x1, r1, c1, p1, d1, q1⟩⟩ := w
      · cases r1
        rw [x1]
        exact ⟨fun c => absurd rfl c, fun _ => ⟨drH_tr f (drH_f f1), Or.inl ⟨e, rfl, rfl, e1⟩⟩⟩
      · cases r1
        rw [x1]
        have hl' := pRt_len x1
        refine ⟨fun _ => ?_, fun c => absurd c (by omega)⟩
        rw [inc1 (by omega)]
        exact ih (i + 1) Q' p' g1 (by omega) (by omega) p1 c1 (drH_tr f (drH_f f1)) d1 q1 (by rw [f1.1 12 (by omega) (by omega) (by omega)]; exact e12)
theorem c_Ta_readInto {h : ftH} {T : List Int} (hT : tpC h T) (hd : drI h [] []) : ft_C k_Ta_readInto [.inr (.inr 113), .inr (.inr 12)] h (ldR (pLd T) h) := by
  rw [pLd_eq]
  refine ft_enter (n := 1) rfl (Nat.le_of_ble_eq_true rfl) rfl (b_Ta_readInto_0 sh_12 (fun h1 e1 => ?_))
  have F1 := taF_hs (h := h) (h' := h1) (j := 3) (by omega) e1
  refine ⟨_, c_Ta_step (p := 0) (taF_tp F1 hT) (by rw [e1, ft_hs_same]; rfl) (Nat.zero_le _), fun h2 w2 => ?_⟩
  obtain ⟨-, f2, c2⟩ := w2
  have F2 := taF_tr F1 f2
  have T2 := taF_tp F2 hT
  have p1 := tkE_le2 (T := T) (p := 0) (Nat.zero_le _)
  have p2 := tkE_le2 p1
  have p3 := tkE_le2 p2
  refine ⟨_, c_Ta_take T2 (Nat.zero_le _) c2, fun z5 h3 _ w3 => ?_⟩
  rcases w3 with ⟨k3, r3, f3, c3⟩ | ⟨k3, r3, e3⟩
  rotate_left
  · cases r3
    rw [if_neg k3, e3]
    exact ⟨fun _ => ⟨drH_f (drF_g (taG_f F2)), Or.inl ⟨_, rfl, rfl, c2.1⟩⟩, fun c => absurd rfl c⟩
  cases r3
  rw [if_pos k3]
  have F3 := taF_tr F2 f3
  have T3 := taF_tp F3 hT
  refine ⟨fun c => absurd c (by omega), fun _ => ⟨fun n => ?_, fun n => ?_⟩⟩
  rotate_left
  · have nb : ¬ nmB T (tkE T 0) 1 40 = true := fun q => n (by
      have q := nmB_iff.mp q
      rw [c3.2.2.1, c3.2.2.2 q.1]
      exact q)
    rw [if_neg nb]
    exact ⟨drH_f (drF_g (taG_f F3)), Or.inl ⟨_, rfl, rfl, c3.1⟩⟩
  rw [c3.2.2.1] at n
  have k4 := n.1
  rw [c3.2.2.2 k4] at n ⊢
  rw [if_pos (nmB_iff.mpr n)]
  intro h4 e4
  have f4 : ∀ c, c ≠ 12 → h4 c = h3 c := fun c hc => by rw [e4, ft_hs_ne c hc]
  have D4 : drH h h4 := ⟨fun c c1 c2 c3 => by rw [f4 c (by omega), F3.1 c c1], fun j hj => by rw [f4 113 (by omega), F3.2 j (by omega)]⟩
  have T4 := drH_tp D4 hT
  have d4 : drI h4 [] [] := by
    have d3 := drI_g F3.1 hd
    unfold drI ft_ps ft_pl ft_tw at d3 ⊢
    rw [f4 13 (by omega), f4 14 (by omega), f4 15 (by omega), f4 19 (by omega), f4 20 (by omega), f4 21 (by omega)]
    exact d3
  refine ⟨_, c_Ta_step (p := tkE T (tkE T 0)) T4 (by rw [f4 113 (by omega)]; exact c3.2.1) p2, fun h5 w5 => ?_⟩
  obtain ⟨-, f5, c5⟩ := w5
  have T5 := taF_tp f5 T4
  have D5 := drH_tr D4 (drH_f (drF_g (taG_f f5)))
  refine ⟨_, c_Ta_take T5 p2 c5, fun z12 h6 _ w6 => ?_⟩
  rcases w6 with ⟨k6, r6, f6, c6⟩ | ⟨k6, r6, e6⟩
  · cases r6
    rw [if_pos k6]
    refine ⟨fun _ => ?_, fun c => absurd c (by omega)⟩
    have F6 := taF_tr f5 f6
    exact v_Ta_ri54 hT n.2 61 0 [] _ h6 (by omega) rfl p3 c6 (drH_tr D4 (drH_f (drF_g (taG_f F6)))) (drI_g F6.1 d4) ⟨fun q hq => by simp at hq, List.Pairwise.nil, Nat.zero_le _⟩ (by rw [F6.1 12 (by omega), e4, ft_hs_same])
  · cases r6
    rw [if_neg k6, e6]
    exact ⟨fun c => absurd rfl c, fun _ => ⟨D5, Or.inl ⟨_, rfl, rfl, c5.1⟩⟩⟩
/-- the state that a text tells -/
def ldS (x : Int × List (Int × Int) × List (Int × Int)) : ftS := (x.1, insF x.2.1, [], x.2.2, [0, 0, 0, 0, 0])
/-- what load leaves alone, in the class: of the object all but the settled level and the error position -/
def lFr (h h' : ftH) : Prop := ∀ k, k ≠ 0 → k ≠ 113 → ¬ (1 ≤ k ∧ k < 24) → k ≠ 294 → h' k = h k
theorem d_FT_load {h : ftH} {S : ftS} {P : List ftS} (hI : ccI h S P) {T : List Int} (hT : tpC h T) : ft_C k_FT_load [.inr (.inr 0)] h (fun r h' => tpC h' [] ∧ lFr h h' ∧ (∀ j, j ≠ 2 → h' 294 j = h 294 j) ∧ ((∃ e : Nat, pLd T = .inl e ∧ r = some (.inl (-1)) ∧ h' 0 4 = (e : Int) ∧ h' 0 5 = h 0 5 ∧ h' 294 2 = h 294 2 ∧ ccI h' S P) ∨ ∃ x, pLd T = .inr x ∧ r = some (.inl ((ldS x).2.1.length : Int)) ∧ h' 0 4 = -2 ∧ h' 0 5 = min (h 0 5) 0 ∧ h' 294 2 = -1 ∧ ccI h' (ldS x) [] ∧ (1 ≤ x.1 ∧ x.1 ≤ 40) ∧ qOk x.2.1 ∧ gOk x.2.2)) := by
  refine ft_enter (n := 1) rfl (Nat.le_of_ble_eq_true rfl) rfl (b_FT_load_0 ⟨_, c_St_reset sh_12, fun h1 w1 => ?_⟩)
  obtain ⟨-, f1, s1, z1⟩ := w1
  have T1 : tpC h1 T := ⟨by rw [f1 113 (by omega)]; exact hT.1, hT.2.1, fun j x hx => by rw [f1 114 (by omega)]; exact hT.2.2 j x hx⟩
  have l13 : ft_pl h1 13 = [] := congrArg (fun s : ftS => s.2.1) s1
  have l16 : ft_pl h1 16 = [] := congrArg (fun s : ftS => s.2.2.1) s1
  have l19 : ft_pl h1 19 = [] := congrArg (fun s : ftS => s.2.2.2.1) s1
  have c22 : ft_ct h1 22 = [0, 0, 0, 0, 0] := congrArg (fun s : ftS => s.2.2.2.2) s1
  obtain ⟨y1, y2, y3⟩ := z1
  have d1 : drI h1 [] [] := by
    refine ⟨⟨ft_ps_of (by have := ln14; rw [show (13 : Nat) + 1 = 14 from rfl, this]; exact y1) (by rw [l13]; exact lOk_nil), l13⟩, ft_tw_of y3.1 (by rw [l19]; exact ⟨by simp, fun q hq => by simp at hq⟩), l19⟩
  refine ⟨_, c_Ta_readInto T1 d1, fun z5 h2 _ w2 => ?_⟩
  obtain ⟨f2, ⟨e, x2, r2, e2⟩ | ⟨c, Q, G, x2, r2, hc, e12, d2, q2⟩⟩ := w2
  · cases r2
    refine ⟨fun _ h3 k3 h4 k4 => ⟨fun c => absurd rfl c, fun _ => ?_⟩, fun c => absurd rfl c⟩
    rw [e2] at k3
    have g : ∀ k, k ≠ 0 → k ≠ 113 → ¬ (12 ≤ k ∧ k < 23) → h4 k = h k := fun k a b c => by rw [k4, ft_hs_ne k b, k3, ft_hs_ne k a, f2.1 k b (by omega) (by omega), f1 k (by omega)]
    have g0 : ∀ j, j ≠ 4 → h4 0 j = h 0 j := fun j hj => by rw [k4, ft_hs_ne 0 (by omega), k3, ft_hs_j hj, f2.1 0 (by omega) (by omega) (by omega), f1 0 (by omega)]
    refine ⟨⟨by rw [k4, ft_hs_same]; rfl, by simp, fun j x hx => by simp at hx⟩, fun k a b c d => g k a b (by omega), fun j _ => by rw [g 294 (by omega) (by omega) (by omega)], Or.inl ⟨e, x2, rfl, by rw [k4, ft_hs_ne 0 (by omega), k3, ft_hs_same], g0 5 (by omega), by rw [g 294 (by omega) (by omega) (by omega)], ?_⟩⟩
    obtain ⟨⟨a1, a2⟩, p, b1, b2, b3, b4, b5⟩ := hI
    refine ⟨⟨ft_sz_same (fun k k1 k2 => g k (by omega) (by omega) (by omega)) a1, by rw [ft_sa_same (fun k k1 k2 => g k (by omega) (by omega) (by omega))]; exact a2⟩, p, b1, by rw [g 23 (by omega) (by omega) (by omega)]; exact b2, by rw [g 23 (by omega) (by omega) (by omega)]; exact b3, b4, fun d X hX => ?_⟩
    have hb := b5 d X hX
    have hs : slot ((p + 7 - d) % 8) = 25 + 11 * ((p + 7 - d) % 8) := rfl
    exact ⟨ft_sz_same (fun k k1 k2 => g k (by omega) (by omega) (by omega)) hb.1, by rw [ft_sa_same (fun k k1 k2 => g k (by omega) (by omega) (by omega))]; exact hb.2⟩
  · cases r2
    refine ⟨fun c => absurd c (by omega), fun _ h3 k3 h4 k4 => ⟨fun _ => ?_, fun c => absurd c (by omega)⟩⟩
    have g : ∀ k, k ≠ 0 → k ≠ 113 → h4 k = h2 k := fun k a b => by rw [k4, ft_hs_ne k b, k3, ft_hs_ne k a]
    have gG := ft_tw_list d2.2.1
    rw [d2.2.2] at gG
    have hlQ := drI_n d2 q2
    have sa4 : ft_sa h4 12 = ldS (c, Q, G) := by
      have sa2 : ft_sa h2 12 = ldS (c, Q, G) := by
        show ((h2 12 0, ft_pl h2 13, ft_pl h2 16, ft_pl h2 19, ft_ct h2 22) : ftS) = (c, insF Q, [], G, [0, 0, 0, 0, 0])
        rw [e12, d2.1.2, d2.2.2, ft_pl_same (f2.1 16 (by omega) (by omega) (by omega)) (f2.1 17 (by omega) (by omega) (by omega)) (f2.1 18 (by omega) (by omega) (by omega)), l16, ft_ct_same (f2.1 22 (by omega) (by omega) (by omega)), c22]
      rw [ft_sa_same (fun k k1 k2 => g k (by omega) (by omega))]
      exact sa2
    have sz4 : ft_sz h4 12 := by
      refine ft_sz_same (h := h2) (fun k k1 k2 => g k (by omega) (by omega)) ⟨?_, ?_, ?_⟩
      · show 0 ≤ h2 13 2 ∧ h2 13 2 ≤ 60
        have := q2.2.2
        omega
      · show 0 ≤ h2 16 2 ∧ h2 16 2 ≤ 80
        rw [f2.1 16 (by omega) (by omega) (by omega)]
        exact y2
      · exact d2.2.1.1
    refine ⟨_, c_St_copyFrom sh_1 sh_12 (Or.inl (by omega)) sz4, fun h5 w5 => ⟨_, c_Hi_forget, fun h6 w6 => ⟨_, c_FT_unsettle, fun h7 w7 => ?_⟩⟩⟩
    obtain ⟨-, f5, s5, z5⟩ := w5
    obtain ⟨-, e6⟩ := w6
    obtain ⟨-, u1, u2, u3, u4, u5⟩ := w7
    have g6 : ∀ k, k ≠ 23 → h6 k = h5 k := fun k hk => by rw [e6, ft_hs_ne k hk]
    have ga : ∀ k, 1 ≤ k → k < 12 → h7 k = h5 k := fun k a b => by rw [u1 k (by omega) (by omega), g6 k (by omega)]
    have z05 : h6 0 5 = h 0 5 := by rw [g6 0 (by omega), f5 0 (by omega), k4, ft_hs_ne 0 (by omega), k3, ft_hs_j (by omega), f2.1 0 (by omega) (by omega) (by omega), f1 0 (by omega)]
    have r294 : ∀ j, h6 294 j = h 294 j := fun j => by rw [g6 294 (by omega), f5 294 (by omega), g 294 (by omega) (by omega), f2.1 294 (by omega) (by omega) (by omega), f1 294 (by omega)]
    obtain ⟨⟨a1, a2⟩, p, b1, b2, b3, b4, b5⟩ := hI
    have sa7 : ft_sa h7 1 = ldS (c, Q, G) := by rw [ft_sa_same (h := h5) (fun k k1 k2 => ga k (by omega) (by omega)), s5, sa4]
    have l2 := congrArg (fun s : ftS => s.2.1) sa7
    have sz7 : ft_sz h7 1 := ft_sz_same (h := h5) (fun k k1 k2 => ga k (by omega) (by omega)) z5
    have n2 : h7 2 2 = ((ldS (c, Q, G)).2.1.length : Int) := by
      have h1 := ft_pl_len h7 2
      have l2' : ft_pl h7 2 = (ldS (c, Q, G)).2.1 := l2
      rw [l2'] at h1
      have := sz7.1
      simp only [Nat.reduceAdd] at this
      omega
    refine ⟨⟨by rw [u1 113 (by omega) (by omega), g6 113 (by omega), f5 113 (by omega), k4, ft_hs_same]; rfl, by simp, fun j x hx => by simp at hx⟩, fun k a b c d => ?_, fun j hj => by rw [u3 j hj, r294], Or.inr ⟨(c, Q, G), x2, by rw [n2], ?_, by rw [u4, z05], u5, ⟨⟨sz7, sa7⟩, p, b1, ?_, ?_, by simp, fun d X hX => by simp at hX⟩, hc, q2, gG⟩⟩
    · rw [u1 k a d, g6 k (by omega), f5 k (by omega), g k a b, f2.1 k b (by omega) (by omega), f1 k (by omega)]
    · rw [u2 4 (by omega), g6 0 (by omega), f5 0 (by omega), k4, ft_hs_ne 0 (by omega), k3, ft_hs_same]
    · rw [u1 23 (by omega) (by omega), e6, ft_hs_j (by omega), f5 23 (by omega), g 23 (by omega) (by omega), f2.1 23 (by omega) (by omega) (by omega), f1 23 (by omega)]
      exact b2
    · rw [u1 23 (by omega) (by omega), e6, ft_hs_same]
      rfl
theorem d_FT_errorPosition {h : ftH} : ft_C k_FT_errorPosition [.inr (.inr 0)] h (fun r h' => r = some (.inl (h 0 4)) ∧ h' = h) := ft_enter (n := 0) rfl (Nat.le_of_ble_eq_true rfl) rfl (b_FT_errorPosition_0 ⟨rfl, rfl⟩)
theorem d_Mo_errorPosition {h : ftH} : ft_C k_Mo_errorPosition [.inr (.inr 309)] h (fun r h' => r = some (.inl (h 309 42)) ∧ h' = h) := ft_enter (n := 0) rfl (Nat.le_of_ble_eq_true rfl) rfl (b_Mo_errorPosition_0 ⟨rfl, rfl⟩)
