/-! THE REFERENCE'S GEOMETRY -/
theorem injL {a b : Int} (h : (some (.inr (.inl a)) : Option ftV) = some (.inr (.inl b))) : a = b := by
  cases h
  rfl
theorem injI {a b : Int} (h : (some (.inl a) : Option ftV) = some (.inl b)) : a = b := by
  cases h
  rfl
theorem ml_k {h : ftH} {o n : Nat} {L : List (Int × Int)} (e : ft_ml h 310 o n = L) (hz : ∀ k, k < n → 0 ≤ h 310 (o + 3 * k + 1) ∧ h 310 (o + 3 * k + 1) ≤ 32) {i : Nat} (hi : i < n) : kS L i = pUn (h 310 (o + 3 * i)) ∧ kN L i = h 310 (o + 3 * i + 1) ∧ vAt L i = h 310 (o + 3 * i + 2) := by
  have h1 := kAt_of (ml_at e hi)
  have h2 := hz i hi
  simp only at h1
  unfold kS kN
  rw [h1.1, h1.2]
  exact ⟨by omega, by omega, rfl⟩
theorem v_Mo_areaOf {h : ftH} {o n : Nat} (ho : o + 3 * n ≤ 520) (hz : ∀ k, k < n → 0 ≤ h 310 (o + 3 * k + 1) ∧ h 310 (o + 3 * k + 1) ≤ 32) {L : List (Int × Int)} (e : ft_ml h 310 o n = L) (hL : lOk L) {a : Nat} (ha : a < n) (h60 : n ≤ 80) {R : Option ftV → ftH → Prop} (hk : R (some (.inr (.inl (ownI L a)))) h) :
    ∀ m i : Nat, i + m = n → ft_V k_Mo_areaOf 36 [some (.inr (.inr 309)), some (.inl (o : Int)), some (.inl (n : Int)), some (.inl (a : Int)), some (.inl (h 310 (o + 3 * a))), some (.inl (h 310 (o + 3 * a + 1))), some (.inr (.inl (pSz (kN L a) - sm (fun k => if parI L k = (a : Int) then pSz (kN L k) else 0) i))), none, some (.inl (i : Int)), none] [] h R := by
  have hlen : L.length = n := by rw [← e, ft_ml_len]
  have hA := ml_k e hz ha
  intro m
  induction m with
  | zero =>
    intro i hi
    refine b_Mo_areaOf_36 ⟨fun c => ?_, fun c => absurd (by omega) c⟩
    have := own_area hL (i := a) (by omega)
    rw [show i = L.length by omega, this]
    exact hk
  | succ m ih =>
    intro i hi
    have hI := ml_k e hz (show i < n by omega)
    have hih := ih (i + 1) (by omega)
    rw [sm] at hih
    have hb := sm_rng (f := fun k => if parI L k = (a : Int) then pSz (kN L k) else 0) (b := 4294967296) i (fun j hj => by
      split
      · exact ⟨Int.le_of_lt (pSz_pos _), pSz_le _⟩
      · omega)
    have hp1 := pSz_pos (kN L a)
    have hp2 := pSz_le (kN L a)
    have hp3 := pSz_pos (kN L i)
    have hp4 := pSz_le (kN L i)
    have hno : parI L i ≠ (a : Int) → ft_V k_Mo_areaOf 36 [some (.inr (.inr 309)), some (.inl (o : Int)), some (.inl (n : Int)), some (.inl (a : Int)), some (.inl (h 310 (o + 3 * a))), some (.inl (h 310 (o + 3 * a + 1))), some (.inr (.inl (pSz (kN L a) - sm (fun k => if parI L k = (a : Int) then pSz (kN L k) else 0) i))), none, some (.inl ((i + 1 : Nat) : Int)), none] [] h R := by
      intro hne
      rw [if_neg hne, Int.add_zero] at hih
      exact hih
    refine b_Mo_areaOf_36 ⟨fun c => absurd c (by omega), fun _ => ?_⟩
    rw [ix3 (show o + 3 * i ≤ 600 by omega), show (1 : Int) = ((1 : Nat) : Int) from rfl, ix1 (show o + 3 * i + 1 ≤ 6000 by omega), Int.toNat_natCast, ix1 (show i + 1 ≤ 6000 by omega), Int.toNat_natCast]
    have hz1 := hz i (by omega)
    have hz2 := hz a ha
    refine ⟨⟨by omega, by omega⟩, fun n1 e1 => ⟨fun c => hno (fun q => ?_), fun c => ⟨⟨by omega, by omega⟩, hz2, fun d => hno (fun q => ?_), fun d => ⟨⟨by omega, by omega⟩, _, c_Mo_longest ho hz, fun z6 h1 _ hw => ?_⟩⟩⟩⟩
    · have q1 := par_in (show i < L.length by omega) q
      have := (kIn_nest hL q1.1 (by omega) q1.2.1 (in_self hL (by omega))).1
      omega
    · have q1 := par_in (show i < L.length by omega) q
      have q2 := (pCt_iff (kAt_pK hL (show a < L.length by omega))).mpr q1.2.1
      apply d
      have q3 : kS L a / pSz (kN L a) = kS L i / pSz (kN L a) := q2
      rw [hA.1, hA.2.1, hI.1] at q3
      exact q3
    · obtain ⟨rfl, r, hz', hlg⟩ := hw
      cases hz'
      rw [e, e1, ← hI.1, ← hI.2.1] at hlg
      have hp := par_of_lg hL (show i < L.length by omega) hlg
      refine ⟨fun q => hno (fun q' => ?_), fun q => ⟨by omega, fun n9 e9 => ?_⟩⟩
      · rcases hp.2.2 with s | s
        · have := hp.1 (by omega)
          omega
        · have := (hp.2.1 s).1
          omega
      · rw [e1, ← hI.2.1, ft_subL_eq ⟨by omega, by omega⟩] at e9
        rw [if_pos (by rw [(hp.2.1 (by omega)).1, q])] at hih
        rw [e9, Int.sub_sub]
        exact hih
theorem c_Mo_areaOf {h : ftH} {o n : Nat} (ho : o + 3 * n ≤ 520) (hz : ∀ k, k < n → 0 ≤ h 310 (o + 3 * k + 1) ∧ h 310 (o + 3 * k + 1) ≤ 32) {L : List (Int × Int)} (e : ft_ml h 310 o n = L) (hL : lOk L) {a : Nat} (ha : a < n) (h60 : n ≤ 80) : ft_C k_Mo_areaOf [.inr (.inr 309), .inl (o : Int), .inl (n : Int), .inl (a : Int)] h (fun r h' => r = some (.inr (.inl (ownI L a))) ∧ h' = h) := by
  have hA := ml_k e hz ha
  have hz2 := hz a ha
  refine ft_enter (n := 6) rfl (Nat.le_of_ble_eq_true rfl) rfl (b_Mo_areaOf_0 ?_)
  rw [ix3 (show o + 3 * a ≤ 600 by omega), show (1 : Int) = ((1 : Nat) : Int) from rfl, ix1 (show o + 3 * a + 1 ≤ 6000 by omega), Int.toNat_natCast, Int.toNat_natCast]
  refine ⟨⟨by omega, by omega⟩, fun n1 e1 => ⟨⟨by omega, by omega⟩, fun n2 e2 => ⟨by omega, fun n5 e5 => ?_⟩⟩⟩
  have := v_Mo_areaOf ho hz e hL ha h60 (R := fun r h' => r = some (.inr (.inl (ownI L a))) ∧ h' = h) ⟨rfl, rfl⟩ n 0 (by omega)
  rw [sm, Int.sub_zero] at this
  rw [e5, e2, e1, ← hA.2.1]
  rw [← hA.2.1] at this
  exact this
theorem d_Mo_parentOf {o : Nat} (ho : o = 10) {h : ftH} {S : ftS} {P : List ftS} (hI : mcI h S P) {B : Int} (hok : sOk B S) {i : Nat} (hi : i < S.2.1.length) : ft_C k_Mo_parentOf [.inr (.inr 309), .inl (i : Int)] h (fun r h' => r = some (.inl (if parI S.2.1 i < 0 then -2 else parI S.2.1 i)) ∧ h' = h) := by
  obtain ⟨e0, e1, e2, e3, e4⟩ := mc_eq hI
  have hl := (mc_len hI).1
  obtain ⟨z1, z2, z3, z4, z5⟩ := ft_mz_0.mp hI.1.1
  rw [← ho] at e1 z4
  have hA := ml_k e1 (fun k hk => z4 k (by omega)) (show i < (h 310 0).toNat by omega)
  refine ft_enter (n := 0) rfl (Nat.le_of_ble_eq_true rfl) rfl (b_Mo_parentOf_0 ?_)
  rw [Int.toNat_natCast, show 10 + 3 * i = o + 3 * i by omega, show 11 + 3 * i = o + 3 * i + 1 by omega, show h 310 0 = (((h 310 0).toNat : Nat) : Int) by omega, show (10 : Int) = ((o : Nat) : Int) by omega]
  refine ⟨⟨by omega, by omega⟩, ⟨by omega, by omega⟩, _, c_Mo_longest (n := (h 310 0).toNat) (by omega) (fun k hk => z4 k (by omega)), fun z h1 _ hw => ?_⟩
  obtain ⟨rfl, r, hz', hlg⟩ := hw
  cases hz'
  rw [e1, ← hA.1, ← hA.2.1] at hlg
  have hp := par_of_lg hok.2.1.1 hi hlg
  refine ⟨?_, rfl⟩
  rcases hp.2.2 with s | s
  · rw [s, if_pos (by have := hp.1 (by omega); omega)]
  · have := (hp.2.1 s).1
    rw [if_neg (by omega), this]
theorem d_Mo_area {o : Nat} (ho : o = 10) {h : ftH} {S : ftS} {P : List ftS} (hI : mcI h S P) {B : Int} (hok : sOk B S) {i : Nat} (hi : i < S.2.1.length) : ft_C k_Mo_areaOf [.inr (.inr 309), .inl 10, .inl (h 310 0), .inl (i : Int)] h (fun r h' => r = some (.inr (.inl (ownI S.2.1 i))) ∧ h' = h) := by
  obtain ⟨e0, e1, e2, e3, e4⟩ := mc_eq hI
  have hl := (mc_len hI).1
  obtain ⟨z1, z2, z3, z4, z5⟩ := ft_mz_0.mp hI.1.1
  rw [← ho] at e1 z4
  rw [show h 310 0 = (((h 310 0).toNat : Nat) : Int) by omega, show (10 : Int) = ((o : Nat) : Int) by omega]
  exact c_Mo_areaOf (n := (h 310 0).toNat) (by omega) (fun k hk => z4 k (by omega)) e1 hok.2.1.1 (by omega) (by omega)
def qRoute (i w : Int) (S : ftS) : Int := if i < 0 ∨ ¬ (0 ≤ w ∧ w ≤ 4) then -1 else if (S.2.1.length : Int) ≤ i then -2 else if w = 3 then (if parI S.2.1 i.toNat < 0 then -2 else parI S.2.1 i.toNat) else if w = 4 then ownI S.2.1 i.toNat else qTell S.2.1 i w
theorem d_Mo_route {o : Nat} (ho : o = 10) {h : ftH} {S : ftS} {P : List ftS} (hI : mcI h S P) {B : Int} (hok : sOk B S) {i w : Int} : ft_C k_Mo_route [.inr (.inr 309), .inl i, .inl w] h (fun r h' => r = some (.inr (.inl (qRoute i w S))) ∧ h' = h) := by
  obtain ⟨e0, e1, e2, e3, e4⟩ := mc_eq hI
  have hl := (mc_len hI).1
  obtain ⟨z1, z2, z3, z4, z5⟩ := ft_mz_0.mp hI.1.1
  rw [← ho] at e1 z4
  have bad : (i < 0 ∨ ¬ (0 ≤ w ∧ w ≤ 4)) → ((some (.inr (.inl (-1))) : Option ftV) = some (.inr (.inl (qRoute i w S))) ∧ h = h) := fun q => by unfold qRoute; rw [if_pos q]; exact ⟨rfl, rfl⟩
  refine ft_enter (n := 0) rfl (Nat.le_of_ble_eq_true rfl) rfl (b_Mo_route_0 ⟨fun c => bad (by omega), fun c => ⟨fun d => ⟨z1.1, fun e => ?_, fun e => ?_⟩, fun d => bad (by omega)⟩⟩)
  · obtain ⟨k, rfl⟩ := Int.eq_ofNat_of_zero_le e.1
    have hk : k < S.2.1.length := by omega
    have htell : qTell S.2.1 (k : Int) w = if w = 0 then pUn (h 310 (o + 3 * k)) else if w = 1 then h 310 (o + 3 * k + 1) else h 310 (o + 3 * k + 2) := by
      rw [← tellK_ml (z4 k (by omega)) w]
      unfold qTell
      rw [Int.toNat_natCast, ml_at e1 (show k < (h 310 0).toNat by omega)]
    rw [Int.toNat_natCast, show 10 + 3 * k = o + 3 * k by omega, show 11 + 3 * k = o + 3 * k + 1 by omega, show 12 + 3 * k = o + 3 * k + 2 by omega]
    unfold qRoute
    rw [if_neg (by omega), if_neg (by omega), Int.toNat_natCast]
    refine ⟨fun f => ?_, fun f => ?_, fun f => ?_, fun f => ?_, fun f => ?_⟩
    · rw [if_neg (by omega), if_pos (by omega)]
      exact ⟨_, d_Mo_area rfl hI hok hk, fun z h1 _ hw => by rw [injL hw.1, hw.2]; exact ⟨rfl, rfl⟩⟩
    · rw [if_neg (by omega), if_neg (by omega), htell, if_pos f]
      exact ⟨⟨by omega, by omega⟩, rfl, rfl⟩
    · rw [if_neg (by omega), if_neg (by omega), htell, if_neg (by omega), if_pos f]
      exact ⟨⟨by omega, by omega⟩, rfl, rfl⟩
    · rw [if_neg (by omega), if_neg (by omega), htell, if_neg (by omega), if_neg (by omega)]
      exact ⟨⟨by omega, by omega⟩, rfl, rfl⟩
    · rw [if_pos f]
      exact ⟨_, d_Mo_parentOf rfl hI hok hk, fun z h1 _ hw => by obtain ⟨hz, rfl⟩ := hw; cases hz; exact ⟨rfl, rfl⟩⟩
  · unfold qRoute
    rw [if_neg (by omega), if_pos (by omega)]
    exact ⟨rfl, rfl⟩
/-! edges -/
theorem v_Mo_edge {o : Nat} (ho : o = 10) {h : ftH} {S : ftS} {P : List ftS} (hI : mcI h S P) {B : Int} (hok : sOk B S) {a : Nat} (ha : (a : Int) < 4294967296) {R : Option ftV → ftH → Prop}
    (hk : ∀ b : Int, ((a : Int) < b ∧ b ≤ 4294967296) → (∀ j, j < S.2.1.length → ¬ ((a : Int) < kS S.2.1 j ∧ kS S.2.1 j < b) ∧ ¬ ((a : Int) < kE S.2.1 j ∧ kE S.2.1 j < b)) → R (some (.inr (.inl b))) h) :
    ∀ (m i : Nat) (b : Int), i + m = S.2.1.length → ((a : Int) < b ∧ b ≤ 4294967296) → (∀ j, j < i → ¬ ((a : Int) < kS S.2.1 j ∧ kS S.2.1 j < b) ∧ ¬ ((a : Int) < kE S.2.1 j ∧ kE S.2.1 j < b)) → ft_V k_Mo_edgeAbove 7 [some (.inr (.inr 309)), some (.inr (.inl (a : Int))), none, some (.inr (.inl b)), none, some (.inl (i : Int)), none, none, none, none] [] h R := by
  obtain ⟨e0, e1, e2, e3, e4⟩ := mc_eq hI
  have hl := (mc_len hI).1
  obtain ⟨z1, z2, z3, z4, z5⟩ := ft_mz_0.mp hI.1.1
  rw [← ho] at e1 z4
  intro m
  induction m with
  | zero =>
    intro i b hi hb hn
    exact b_Mo_edgeAbove_7 ⟨fun c => hk b hb (fun j hj => hn j (by omega)), fun c => absurd (by omega) c⟩
  | succ m ih =>
    intro i b hi hb hn
    have hiL : i < S.2.1.length := by omega
    have hA := ml_k e1 (fun k hk => z4 k (by omega)) (show i < (h 310 0).toNat by omega)
    have hr := kS_rng hok.2.1.1 hiL
    have hE := kE_le hok.2.1.1 hiL
    have hz4 := z4 i (by omega)
    have go : ∀ b' : Int, ((a : Int) < b' ∧ b' ≤ b) → (¬ ((a : Int) < kS S.2.1 i ∧ kS S.2.1 i < b') ∧ ¬ ((a : Int) < kE S.2.1 i ∧ kE S.2.1 i < b')) → ft_V k_Mo_edgeAbove 7 [some (.inr (.inr 309)), some (.inr (.inl (a : Int))), none, some (.inr (.inl b')), none, some (.inl (ft_add (i : Int) 1)), none, none, none, none] [] h R := by
      intro b' hb' hn'
      rw [show (1 : Int) = ((1 : Nat) : Int) from rfl, ix1 (show i + 1 ≤ 6000 by have := hok.2.1.2.2; omega)]
      refine ih (i + 1) b' (by omega) ⟨hb'.1, by omega⟩ (fun j hj => ?_)
      by_cases c : j = i
      · rw [c]; exact hn'
      · have := hn j (by omega)
        omega
    refine b_Mo_edgeAbove_7 ⟨fun c => absurd c (by omega), fun _ => ⟨⟨by omega, by omega⟩, fun n5 e5 => ?_⟩⟩
    rw [Int.toNat_natCast, show 10 + 3 * i = o + 3 * i by omega, ← hA.1] at e5
    rw [Int.toNat_natCast, show 11 + 3 * i = o + 3 * i + 1 by omega, ← hA.2.1]
    refine ⟨⟨by omega, by omega⟩, ⟨by omega, by omega⟩, fun n10 e10 => ?_⟩
    have e10' : n10 = kE S.2.1 i := by
      rw [e10, e5]
      have : kE S.2.1 i = kS S.2.1 i + pSz (kN S.2.1 i) := rfl
      rw [ft_addL_eq ⟨by omega, by omega⟩, this]
    rw [e5, e10']
    exact ⟨fun c => ⟨fun d => go b (by omega) (by omega), fun d => ⟨fun f => go b (by omega) (by omega), fun f => go _ (by omega) (by omega)⟩⟩, fun c => ⟨fun d => ⟨fun f => go b (by omega) (by omega), fun f => ⟨fun g => go b (by omega) (by omega), fun g => go _ (by omega) (by omega)⟩⟩, fun d => ⟨fun f => go _ (by omega) (by omega), fun f => ⟨fun g => go _ (by omega) (by omega), fun g => go _ (by omega) (by omega)⟩⟩⟩⟩
theorem lmI_same {L : List (Int × Int)} {x y : Int} (h : ∀ j, j < L.length → (pIn (kAt L j) x ↔ pIn (kAt L j) y)) : lmI L x = lmI L y := by
  by_cases c : lmI L y < 0
  · have := lmI_neg c
    rw [this.1]
    exact lmI_no (fun j hj q => this.2 j hj ((h j hj).mp q))
  · obtain ⟨p, hp⟩ := Int.eq_ofNat_of_zero_le (show 0 ≤ lmI L y by omega)
    obtain ⟨h1, h2, h3⟩ := lmI_in hp
    rw [hp]
    exact lmI_eq h1 ((h p h1).mpr h2) (fun j j1 j2 q => h3 j j1 j2 ((h j j2).mp q))
theorem d_Mo_edgeAbove {h : ftH} {S : ftS} {P : List ftS} (hI : mcI h S P) {B : Int} (hok : sOk B S) {a : Nat} (ha : (a : Int) < 4294967296) : ft_C k_Mo_edgeAbove [.inr (.inr 309), .inr (.inl (a : Int))] h (fun r h' => h' = h ∧ ∃ e : Nat, r = some (.inr (.inl (e : Int))) ∧ a < e ∧ e ≤ W32 ∧ ∀ x : Nat, a ≤ x → x < e → lmI S.2.1 (x : Int) = lmI S.2.1 (a : Int)) := by
  refine ft_enter (n := 7) rfl (Nat.le_of_ble_eq_true rfl) rfl (b_Mo_edgeAbove_0 (v_Mo_edge rfl hI hok ha (fun b hb hn => ?_) S.2.1.length 0 4294967296 (by omega) (by omega) (fun j hj => absurd hj (Nat.not_lt_zero j))))
  obtain ⟨e, he⟩ := Int.eq_ofNat_of_zero_le (show 0 ≤ b by omega)
  have hW := W32_eq
  refine ⟨rfl, e, by rw [he], by omega, by omega, fun x x1 x2 => lmI_same (fun j hj => ?_)⟩
  have := hn j hj
  rw [kIn_iff, kIn_iff]
  omega
/-- the first address above with another answer -/
def isNx (A : Int → Int) (a : Nat) (r : Int) : Prop := (r = -2 ∧ ∀ x : Nat, a ≤ x → x < W32 → A x = A a) ∨ ∃ e : Nat, r = (e : Int) ∧ a < e ∧ e < W32 ∧ A e ≠ A a ∧ ∀ x : Nat, a ≤ x → x < e → A x = A a
theorem isNx_uniq {A : Int → Int} {a : Nat} {r r' : Int} (h1 : isNx A a r) (h2 : isNx A a r') : r = r' := by
  rcases h1 with ⟨rfl, g1⟩ | ⟨e, rfl, g1, g2, g3, g4⟩
  · rcases h2 with ⟨rfl, k1⟩ | ⟨e', rfl, k1, k2, k3, k4⟩
    · rfl
    · exact absurd (g1 e' (by omega) k2) k3
  · rcases h2 with ⟨rfl, k1⟩ | ⟨e', rfl, k1, k2, k3, k4⟩
    · exact absurd (k1 e (by omega) g2) g3
    · rcases Nat.lt_trichotomy e e' with c | c | c
      · exact absurd (k4 e (by omega) c) g3
      · rw [c]
      · exact absurd (g4 e' (by omega) c) k3
theorem ans_same {L : List (Int × Int)} {x y : Int} (h : lmI L x = lmI L y) : ansOf L x = ansOf L y := by rw [ansOf_lmI, ansOf_lmI, h]
theorem v_Mo_nextOther {h : ftH} {S : ftS} {P : List ftS} (hI : mcI h S P) {B : Int} (hok : sOk B S) {a : Nat} (ha : a < W32) {R : Option ftV → ftH → Prop} (hk : ∀ r, isNx (ansOf S.2.1) a r → R (some (.inr (.inl r))) h) :
    ∀ m t : Nat, W32 - t ≤ m → a < t → t ≤ W32 → (∀ x : Nat, a ≤ x → x < t → ansOf S.2.1 (x : Int) = ansOf S.2.1 (a : Int)) → ft_V k_Mo_nextOther 15 [some (.inr (.inr 309)), none, some (.inl (ansOf S.2.1 (a : Int))), some (.inr (.inl (t : Int))), none] [] h R := by
  have hW := W32_eq
  intro m
  induction m with
  | zero =>
    intro t hm h1 h2 hc
    refine b_Mo_nextOther_15 ⟨fun c => ⟨fun _ => hk _ (Or.inl ⟨rfl, fun x x1 x2 => hc x x1 (by omega)⟩), fun d => absurd c d⟩, fun c => absurd (by omega) c⟩
  | succ m ih =>
    intro t hm h1 h2 hc
    refine b_Mo_nextOther_15 ⟨fun c => ⟨fun _ => hk _ (Or.inl ⟨rfl, fun x x1 x2 => hc x x1 (by omega)⟩), fun d => absurd c d⟩, fun c => ⟨_, d_Mo_answers rfl hI hok, fun z3 g _ hw => ?_⟩⟩
    obtain ⟨hz, rfl⟩ := hw
    have ht : pUn (ft_l2i (t : Int)) = (t : Int) := by
      rw [ft_l2i_un ⟨by omega, by omega⟩]
      unfold pUn
      omega
    rw [ht] at hz
    cases hz
    refine ⟨fun d => ⟨fun q => absurd q c, fun _ => hk _ (Or.inr ⟨t, rfl, h1, by omega, d, hc⟩)⟩, fun d => ⟨_, d_Mo_edgeAbove hI hok (by omega), fun z6 g2 _ hw => ?_⟩⟩
    obtain ⟨rfl, e, hz, k1, k2, k3⟩ := hw
    cases hz
    refine ih e (by omega) (by omega) k2 (fun x x1 x2 => ?_)
    by_cases q : x < t
    · exact hc x x1 q
    · rw [ans_same (k3 x (by omega) x2), d]
theorem d_Mo_nextOther {h : ftH} {S : ftS} {P : List ftS} (hI : mcI h S P) {B : Int} (hok : sOk B S) {x : Int} : ft_C k_Mo_nextOther [.inr (.inr 309), .inl x] h (fun r h' => h' = h ∧ ∃ z, r = some (.inr (.inl z)) ∧ isNx (ansOf S.2.1) (pUn x).toNat z) := by
  have hW := W32_eq
  have hu := pUn_rng x
  have hx : pUn x = ((pUn x).toNat : Int) := by omega
  refine ft_enter (n := 3) rfl (Nat.le_of_ble_eq_true rfl) rfl (b_Mo_nextOther_0 ⟨_, d_Mo_answers rfl hI hok, fun z3 g _ hw => ?_⟩)
  obtain ⟨hz, rfl⟩ := hw
  cases hz
  refine ⟨_, by rw [hx]; exact d_Mo_edgeAbove hI hok (by omega), fun z6 g2 _ hw => ?_⟩
  obtain ⟨rfl, e, hz, k1, k2, k3⟩ := hw
  cases hz
  rw [hx]
  exact v_Mo_nextOther hI hok (by omega) (fun r hr => ⟨rfl, r, rfl, hr⟩) W32 e (by omega) k1 k2 (fun y y1 y2 => ans_same (k3 y y1 y2))
