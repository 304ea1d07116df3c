/-! the reference's parts, laid in a row -/
theorem mcI_fr {h h' : ftH} {S : ftS} {P : List ftS} (hI : mcI h S P) (f0 : h' 310 = h 310) (f1 : h' 311 = h 311) (f4 : h' 309 4 = h 309 4) : mcI h' S P := by
  obtain ⟨⟨z, s⟩, h4, hP, hd⟩ := hI
  have h0 := ft_ma_mv (h := h) (h' := h') (c := 310) (o := 0) (c' := 310) (o' := 0) z (fun j _ => by rw [f0])
  refine ⟨⟨h0.2, by rw [h0.1, s]⟩, by rw [f4, h4], hP, fun d X hX => ?_⟩
  have h9 := hd d X hX
  have hk := ft_ma_mv (h := h) (h' := h') (c := 311) (o := 520 * (P.length - 1 - d)) (c' := 311) (o' := 520 * (P.length - 1 - d)) h9.1 (fun j _ => by rw [f1])
  exact ⟨hk.2, by rw [hk.1, h9.2]⟩
def fl (h : ftH) (j : Nat) : Nat := (32 - h 314 j).toNat
def vv (h : ftH) (j : Nat) : Int := pUn (h 313 j)
/-- the children of a part -/
def kidI (h : ftH) (j c : Nat) : Prop := j < c ∧ fl h j = fl h c + 1 ∧ fl h (c + 1) = fl h c ∧ vv h c = vv h j ∧ vv h (c + 1) = vv h j + 2 ^ fl h c
def ptI (h : ftH) (L : List (Int × Int)) (k : Nat) : Prop :=
  h 309 10 = (mm (h 315) k : Int) ∧ (k ≤ mm (h 315) k ∧ ∀ j, j < k → j < mm (h 315) j) ∧ fl h 0 = 32 ∧ vv h 0 = 0 ∧
  (∀ j, j < mm (h 315) k → (0 ≤ h 314 j ∧ h 314 j ≤ 32) ∧ ndOk (fl h j) (vv h j)) ∧
  (∀ j, j < k → (h 315 j = 0 ∧ ¬ hR L (fl h j) (vv h j) = true ∧ h 316 j = ((2 ^ (ansOf L (vv h j)).toNat : Nat) : Int)) ∨ (h 315 j = (mm (h 315) j : Int) ∧ hR L (fl h j) (vv h j) = true ∧ kidI h j (mm (h 315) j))) ∧
  (∀ j, k ≤ j → j < mm (h 315) k → h 315 j = 0) ∧
  (k : Int) + sm (fun j => (tN L (fl h j) (vv h j) : Int)) (mm (h 315) k) - sm (fun j => (tN L (fl h j) (vv h j) : Int)) k ≤ 3841
theorem sm_gap {f : Nat → Int} (h1 : ∀ j, 1 ≤ f j) {k : Nat} : ∀ n, k ≤ n → ((n : Int) - k) ≤ sm f n - sm f k
  | 0, h => by rw [show k = 0 by omega]; simp
  | n + 1, h => by
    by_cases c : k = n + 1
    · rw [c]; omega
    · have := sm_gap h1 n (show k ≤ n by omega)
      have := h1 n
      rw [sm]
      push_cast
      omega
theorem ptI_small {h : ftH} {L : List (Int × Int)} {k : Nat} (hp : ptI h L k) : mm (h 315) k ≤ 3841 := by
  obtain ⟨a1, a2, a3, a4, a5, a6, a7, a8⟩ := hp
  have := sm_gap (f := fun j => (tN L (fl h j) (vv h j) : Int)) (fun j => by have := tN_pos L (fl h j) (vv h j); omega) (k := k) _ a2.1
  omega
theorem ptI_leaf {h h' : ftH} {L : List (Int × Int)} {k : Nat} (hp : ptI h L k) (hk : k < mm (h 315) k) (hh : ¬ hR L (fl h k) (vv h k) = true) (e : h' = ft_hs h 316 k ((2 ^ (ansOf L (vv h k)).toNat : Nat) : Int)) : ptI h' L (k + 1) := by
  obtain ⟨a1, a2, a3, a4, a5, a6, a7, a8⟩ := hp
  have q : ∀ c, c ≠ 316 → h' c = h c := fun c hc => by rw [e]; exact ft_hs_ne c hc
  have f1 : ∀ j, fl h' j = fl h j := fun j => by unfold fl; rw [q 314 (by omega)]
  have f2 : ∀ j, vv h' j = vv h j := fun j => by unfold vv; rw [q 313 (by omega)]
  have f3 : h' 315 = h 315 := q 315 (by omega)
  have h0 : h 315 k = 0 := a7 k (Nat.le_refl k) hk
  have em : mm (h' 315) (k + 1) = mm (h 315) k := by rw [f3, mm, if_pos h0]
  unfold ptI kidI
  simp only [f1, f2, f3] at *
  rw [em, q 309 (by omega), q 314 (by omega)]
  refine ⟨a1, ⟨by omega, fun j hj => by by_cases c : j = k; (rw [c]; exact hk); exact a2.2 j (by omega)⟩, a3, a4, a5, fun j hj => ?_, fun j j1 j2 => a7 j (by omega) j2, ?_⟩
  · by_cases c : j = k
    · subst c
      exact Or.inl ⟨h0, hh, by rw [e]; exact ft_hs_same⟩
    · rcases a6 j (by omega) with ⟨b1, b2, b3⟩ | b
      · exact Or.inl ⟨b1, b2, by rw [e, ft_hs_j c]; exact b3⟩
      · exact Or.inr b
  · rw [sm]
    have := tN_pos L (fl h k) (vv h k)
    push_cast
    omega
theorem ptI_split {h h' : ftH} {L : List (Int × Int)} {k d : Nat} (hp : ptI h L k) (hk : k < mm (h 315) k) (hh : hR L (fl h k) (vv h k) = true) (hd : fl h k = d + 1) (g9 : h' 309 10 = ((mm (h 315) k + 2 : Nat) : Int)) (g3 : ∀ j, j < mm (h 315) k → h' 313 j = h 313 j ∧ h' 314 j = h 314 j) (g5 : ∀ j, j < mm (h 315) k → j ≠ k → h' 315 j = h 315 j) (g5k : h' 315 k = (mm (h 315) k : Int)) (g6 : h' 316 = h 316) (gm : h' 314 (mm (h 315) k) = 32 - (d : Int) ∧ vv h' (mm (h 315) k) = vv h k ∧ h' 315 (mm (h 315) k) = 0) (gn : h' 314 (mm (h 315) k + 1) = 32 - (d : Int) ∧ vv h' (mm (h 315) k + 1) = vv h k + 2 ^ d ∧ h' 315 (mm (h 315) k + 1) = 0) : ptI h' L (k + 1) := by
  obtain ⟨a1, a2, a3, a4, a5, a6, a7, a8⟩ := hp
  have hm1 := mm_pos (h 315) k
  have f1 : ∀ j, j < mm (h 315) k → fl h' j = fl h j := fun j hj => by unfold fl; rw [(g3 j hj).2]
  have f2 : ∀ j, j < mm (h 315) k → vv h' j = vv h j := fun j hj => by unfold vv; rw [(g3 j hj).1]
  have em : ∀ j, j ≤ k → mm (h' 315) j = mm (h 315) j := fun j hj => mm_ext j (fun i hi => g5 i (by omega) (by omega))
  have em1 : mm (h' 315) (k + 1) = mm (h 315) k + 2 := by rw [mm, em k (Nat.le_refl k), if_neg (by rw [g5k]; omega)]
  have hnk := (a5 k hk).2
  rw [hd] at hnk
  have hd32 := hnk.1
  have fm : fl h' (mm (h 315) k) = d := by unfold fl; rw [gm.1]; omega
  have fn : fl h' (mm (h 315) k + 1) = d := by unfold fl; rw [gn.1]; omega
  have hkid : ∀ j, j < k → (h' 315 j = 0 ∧ ¬ hR L (fl h' j) (vv h' j) = true ∧ h' 316 j = ((2 ^ (ansOf L (vv h' j)).toNat : Nat) : Int)) ∨ (h' 315 j = (mm (h' 315) j : Int) ∧ hR L (fl h' j) (vv h' j) = true ∧ kidI h' j (mm (h' 315) j)) := fun j hj => by
    rw [em j (by omega), f1 j (by omega), f2 j (by omega), g5 j (by omega) (by omega), g6]
    rcases a6 j hj with b | ⟨b1, b2, b3⟩
    · exact Or.inl b
    · refine Or.inr ⟨b1, b2, ?_⟩
      have hlt : mm (h 315) j + 2 ≤ mm (h 315) k := by
        have := mm_mono (f := h 315) (j := j + 1) k (by omega)
        rw [mm, if_neg (by rw [b1]; have := mm_pos (h 315) j; omega)] at this
        exact this
      unfold kidI at b3 ⊢
      rw [f1 j (by omega), f1 _ (show mm (h 315) j < _ by omega), f1 _ (show mm (h 315) j + 1 < _ by omega), f2 j (by omega), f2 _ (show mm (h 315) j < _ by omega), f2 _ (show mm (h 315) j + 1 < _ by omega)]
      exact b3
  refine ⟨by rw [em1]; exact g9, ⟨by omega, fun j hj => by rw [em j (by omega)]; by_cases c : j = k; (rw [c]; exact hk); exact a2.2 j (by omega)⟩, by rw [f1 0 (by omega)]; exact a3, by rw [f2 0 (by omega)]; exact a4, fun j hj => ?_, fun j hj => ?_, fun j j1 j2 => ?_, ?_⟩
  · rw [em1] at hj
    by_cases c : j < mm (h 315) k
    · rw [(g3 j c).2, f1 j c, f2 j c]
      exact a5 j c
    · by_cases c2 : j = mm (h 315) k
      · rw [c2, gm.1, fm, gm.2.1]
        exact ⟨by omega, nd_left hnk⟩
      · rw [show j = mm (h 315) k + 1 by omega, gn.1, fn, gn.2.1]
        exact ⟨by omega, nd_right hnk⟩
  · by_cases c : j = k
    · subst c
      rw [em j (Nat.le_refl j), f1 j hk, f2 j hk]
      refine Or.inr ⟨g5k, hh, hk, ?_, ?_, ?_, ?_⟩
      · rw [f1 j hk, fm, hd]
      · rw [fn, fm]
      · rw [gm.2.1, f2 j hk]
      · rw [gn.2.1, f2 j hk, fm]
    · exact hkid j (by omega)
  · rw [em1] at j2
    by_cases c : j < mm (h 315) k
    · rw [g5 j c (by omega)]
      exact a7 j (by omega) c
    · by_cases c2 : j = mm (h 315) k
      · rw [c2]; exact gm.2.2
      · rw [show j = mm (h 315) k + 1 by omega]; exact gn.2.2
  · rw [em1, show mm (h 315) k + 2 = mm (h 315) k + 1 + 1 by omega, sm, sm, sm]
    have e1 : sm (fun j => (tN L (fl h' j) (vv h' j) : Int)) (mm (h 315) k) = sm (fun j => (tN L (fl h j) (vv h j) : Int)) (mm (h 315) k) := sm_ext _ (fun j hj => by rw [f1 j hj, f2 j hj])
    have e2 : sm (fun j => (tN L (fl h' j) (vv h' j) : Int)) k = sm (fun j => (tN L (fl h j) (vv h j) : Int)) k := sm_ext _ (fun j hj => by rw [f1 j (by omega), f2 j (by omega)])
    have e3 : tN L (fl h k) (vv h k) = 1 + tN L d (vv h k) + tN L d (vv h k + 2 ^ d) := by
      rw [hd] at hh ⊢
      rw [tN, if_pos hh]
    rw [e1, e2, fm, fn, gm.2.1, gn.2.1, f1 k hk, f2 k hk, e3]
    push_cast
    omega
theorem v_Mo_lays1 {h0 : ftH} {S : ftS} {P : List ftS} (hI : mcI h0 S P) {B : Int} (hok : sOk B S) {R : Option ftV → ftH → Prop}
    (hk : ∀ (h : ftH) (K : Nat), ptI h S.2.1 K → mm (h 315) K = K → (∀ c, c ≠ 309 → (c < 313 ∨ 317 ≤ c) → h c = h0 c) → (∀ j, j ≠ 10 → h 309 j = h0 309 j) → ft_V k_Mo_laysParts 106 [some (.inr (.inr 309)), some (.inl ((K : Int) - 1)), none, none] [] h R) :
    ∀ (m k : Nat) (h : ftH), 3842 - k ≤ m → ptI h S.2.1 k → (∀ c, c ≠ 309 → (c < 313 ∨ 317 ≤ c) → h c = h0 c) → (∀ j, j ≠ 10 → h 309 j = h0 309 j) → ft_V k_Mo_laysParts 13 [some (.inr (.inr 309)), some (.inl (k : Int)), none, none] [] h R := by
  have hL := hok.2.1.1
  intro m
  induction m with
  | zero =>
    intro k h hm hp f1 f2
    have := ptI_small hp
    have := hp.2.1.1
    omega
  | succ m ih =>
    intro k h hm hp f1 f2
    have hsm := ptI_small hp
    have hI' : mcI h S P := mcI_fr hI (f1 310 (by omega) (by omega)) (f1 311 (by omega) (by omega)) (f2 4 (by omega))
    refine b_Mo_laysParts_13 ⟨fun c n1 e1 => ?_, fun c => ⟨⟨by have := hp.1; omega, by have := hp.1; omega⟩, fun n2 e2 => ⟨⟨by have := hp.1; omega, by have := hp.1; omega⟩, fun n3 e3 => ?_⟩⟩⟩
    · have ek : mm (h 315) k = k := by have := hp.1; have := hp.2.1.1; omega
      rw [e1, hp.1, ek, ft_sub_eq ⟨by omega, by omega⟩]
      exact hk h k hp ek f1 f2
    · have hkm : k < mm (h 315) k := by have := hp.1; omega
      rw [Int.toNat_natCast] at e2 e3
      have hnd := hp.2.2.2.2.1 k hkm
      have hfl : n3 = 32 - (fl h k : Int) := by unfold fl; omega
      have hvv : pUn n2 = vv h k := by rw [e2]; rfl
      rw [hfl]
      refine ⟨_, d_Mo_hasRoutes hI' hok (by rw [hvv]; exact hnd.2), fun z6 g _ hw => ?_⟩
      obtain ⟨hz, rfl⟩ := hw
      have hz := injI hz
      rw [hvv] at hz
      have ha1 : ft_add (k : Int) 1 = ((k + 1 : Nat) : Int) := by rw [ft_add_eq ⟨by omega, by omega⟩]; push_cast; rfl
      rw [ha1, Int.toNat_natCast]
      refine ⟨fun c2 => ?_, fun c2 => ?_⟩
      · have hh : hR S.2.1 (fl g k) (vv g k) = true := by
          by_cases q : hR S.2.1 (fl g k) (vv g k) = true
          · exact q
          · rw [if_neg q] at hz; exact absurd hz c2
        obtain ⟨d, hd⟩ : ∃ d, fl g k = d + 1 := by
          cases hf : fl g k with
          | zero => rw [hf] at hh; exact absurd hh (hR_0 hL _)
          | succ d => exact ⟨d, rfl⟩
        have hd32 : d + 1 ≤ 32 := by have := hnd.2.1; omega
        have hnk := hnd.2
        rw [hd] at hnk
        refine ⟨⟨by omega, by omega⟩, fun h2 eh2 => ?_⟩
        have p2 : ∀ c, c ≠ 315 → h2 c = g c := fun c hc => by rw [eh2]; exact ft_hs_ne c hc
        have n10 : h2 309 10 = (mm (g 315) k : Int) := by rw [p2 309 (by omega)]; exact hp.1
        rw [hp.1] at eh2
        refine ⟨_, c_Mo_addsPart n10 (by omega), fun h3 hw3 => ?_⟩
        obtain ⟨-, u1, u2, u3, u4, u5, u6, u7⟩ := hw3
        refine ⟨_, c_Mo_addsPart u3 (by omega), fun h4 hw4 => ?_⟩
        obtain ⟨-, w1, w2, w3, w4, w5, w6, w7⟩ := hw4
        have hl1 : ft_add (32 - ((fl g k : Nat) : Int)) 1 = 32 - (d : Int) := by rw [hd, ft_add_eq ⟨by push_cast; omega, by push_cast; omega⟩]; push_cast; omega
        have hl2 : (32 : Int) - ((fl g k : Nat) : Int) = 31 - (d : Int) := by rw [hd]; push_cast; omega
        have hp' : ptI h4 S.2.1 (k + 1) := by
          refine ptI_split hp hkm hh hd ?_ (fun j hj => ?_) (fun j hj hne => ?_) ?_ ?_ ⟨?_, ?_, ?_⟩ ⟨?_, ?_, ?_⟩
          · rw [w3]
          · have a := w4 j (by omega)
            have b := u4 j (by omega)
            exact ⟨by rw [a.1, b.1, p2 313 (by omega)], by rw [a.2.1, b.2.1, p2 314 (by omega)]⟩
          · rw [(w4 j (by omega)).2.2, (u4 j (by omega)).2.2, eh2, ft_hs_j hne]
          · rw [(w4 k (by omega)).2.2, (u4 k (by omega)).2.2, eh2, ft_hs_same]
          · rw [w1 316 (by omega) (by omega) (by omega) (by omega), u1 316 (by omega) (by omega) (by omega) (by omega), p2 316 (by omega)]
          · rw [(w4 _ (by omega)).2.1, u6, hl1]
          · unfold vv
            rw [(w4 _ (by omega)).1, u5, e2]
          · rw [(w4 _ (by omega)).2.2, u7]
          · rw [w6, hl1]
          · unfold vv
            rw [w5, hl2, ft_right (by rw [hvv]; exact hnk), e2]
          · rw [w7]
        refine ih (k + 1) h4 (by omega) hp' (fun c c1 c2 => ?_) (fun j hj => ?_)
        · rw [w1 c c1 (by omega) (by omega) (by omega), u1 c c1 (by omega) (by omega) (by omega), p2 c (by omega), f1 c c1 c2]
        · rw [w2 j hj, u2 j hj, p2 309 (by omega), f2 j hj]
      · have hh : ¬ hR S.2.1 (fl g k) (vv g k) = true := fun q => by rw [if_pos q] at hz; omega
        refine ⟨_, d_Mo_answers rfl hI' hok, fun z13 g5 _ hw => ?_⟩
        obtain ⟨hz13, rfl⟩ := hw
        have hz13 := injI hz13
        rw [hvv] at hz13
        refine ⟨⟨by omega, by omega⟩, fun h6 e6 => ?_⟩
        have h15 := ans15 (fun q hq => ⟨(hL.1 q hq).2.1, hok.2.1.2.1 q hq⟩) (vv g5 k)
        have es : ft_shl 1 z13 = ((2 ^ (ansOf S.2.1 (vv g5 k)).toNat : Nat) : Int) := by
          rw [← ft_shl_all _ (show (ansOf S.2.1 (vv g5 k)).toNat < 16 by omega), hz13]
          congr 1
          omega
        rw [es] at e6
        refine ih (k + 1) h6 (by omega) (ptI_leaf hp hkm hh e6) (fun c c1 c2 => by rw [e6, ft_hs_ne c (by omega), f1 c c1 c2]) (fun j hj => by rw [e6, ft_hs_ne 309 (by omega), f2 j hj])
/-- all parts with their sets -/
def pfI (h : ftH) (L : List (Int × Int)) (K : Nat) : Prop :=
  h 309 10 = (K : Int) ∧ (mm (h 315) K = K ∧ ∀ j, j < K → j < mm (h 315) j) ∧ K ≤ 3841 ∧ fl h 0 = 32 ∧ vv h 0 = 0 ∧
  ∀ j, j < K → (0 ≤ h 314 j ∧ h 314 j ≤ 32) ∧ ndOk (fl h j) (vv h j) ∧ h 316 j = (tS L (fl h j) (vv h j) : Int) ∧ ((h 315 j = 0 ∧ ¬ hR L (fl h j) (vv h j) = true) ∨ (h 315 j = (mm (h 315) j : Int) ∧ hR L (fl h j) (vv h j) = true ∧ mm (h 315) j + 2 ≤ K ∧ kidI h j (mm (h 315) j)))
theorem tS_leaf' {L : List (Int × Int)} {d : Nat} {v : Int} (hh : ¬ hR L d v = true) : tS L d v = 2 ^ (ansOf L v).toNat := by
  cases d with
  | zero => rw [tS]
  | succ d => rw [tS, if_neg hh]
theorem v_Mo_lays2 {L : List (Int × Int)} (h15 : hop15 L) {h0 : ftH} {K : Nat} (hp : ptI h0 L K) (eK : mm (h0 315) K = K) {R : Option ftV → ftH → Prop} (hk : ∀ h : ftH, pfI h L K → (∀ c, c ≠ 316 → h c = h0 c) → R none h) :
    ∀ (k : Nat) (h : ftH), k ≤ K → (∀ c, c ≠ 316 → h c = h0 c) → (∀ j, j < k → h 316 j = h0 316 j) → (∀ j, k ≤ j → j < K → h 316 j = (tS L (fl h0 j) (vv h0 j) : Int)) → ft_V k_Mo_laysParts 106 [some (.inr (.inr 309)), some (.inl ((k : Int) - 1)), none, none] [] h R := by
  have hsm := ptI_small hp
  rw [eK] at hsm
  obtain ⟨a1, a2, a3, a4, a5, a6, a7, a8⟩ := hp
  rw [eK] at a5
  have kids : ∀ j, j < K → h0 315 j ≠ 0 → h0 315 j = (mm (h0 315) j : Int) ∧ hR L (fl h0 j) (vv h0 j) = true ∧ mm (h0 315) j + 2 ≤ K ∧ kidI h0 j (mm (h0 315) j) := fun j hj hne => by
    rcases a6 j hj with ⟨b, -⟩ | ⟨b1, b2, b3⟩
    · exact absurd b hne
    · refine ⟨b1, b2, ?_, b3⟩
      have := mm_mono (f := h0 315) (j := j + 1) K (by omega)
      rw [mm, if_neg hne, eK] at this
      exact this
  intro k
  induction k with
  | zero =>
    intro h hkK f1 f2 f3
    refine b_Mo_laysParts_106 ⟨fun _ => hk h ?_ f1, fun c => absurd (by omega) c⟩
    have g1 : ∀ j, fl h j = fl h0 j := fun j => by unfold fl; rw [f1 314 (by omega)]
    have g2 : ∀ j, vv h j = vv h0 j := fun j => by unfold vv; rw [f1 313 (by omega)]
    unfold pfI kidI
    simp only [g1, g2, f1 315 (by omega), f1 314 (by omega), f1 309 (by omega)]
    refine ⟨by rw [a1, eK], ⟨eK, a2.2⟩, hsm, a3, a4, fun j hj => ⟨(a5 j hj).1, (a5 j hj).2, f3 j (by omega) hj, ?_⟩⟩
    by_cases c : h0 315 j = 0
    · rcases a6 j hj with ⟨b1, b2, b3⟩ | ⟨b1, -⟩
      · exact Or.inl ⟨b1, b2⟩
      · have := mm_pos (h0 315) j
        omega
    · exact Or.inr (kids j hj c)
  | succ k ih =>
    intro h hkK f1 f2 f3
    have ek : ((k + 1 : Nat) : Int) - 1 = (k : Int) := by push_cast; omega
    rw [ek]
    have hneg : ft_add (k : Int) (-1) = (k : Int) - 1 := by rw [ft_add_eq ⟨by omega, by omega⟩]; rfl
    refine b_Mo_laysParts_106 ⟨fun c => absurd c (by omega), fun _ => ?_⟩
    rw [Int.toNat_natCast, hneg]
    clear hneg
    rw [f1 315 (by omega)]
    refine ⟨⟨by omega, by omega⟩, fun c => ?_, fun c => ?_⟩
    · obtain ⟨b1, b2, b3, b4⟩ := kids k (by omega) c
      rw [b1, Int.toNat_natCast, show ft_add ((mm (h0 315) k : Nat) : Int) 1 = ((mm (h0 315) k + 1 : Nat) : Int) by rw [ft_add_eq ⟨by omega, by omega⟩]; push_cast; rfl, Int.toNat_natCast]
      obtain ⟨c1, c2, c3, c4, c5⟩ := b4
      have t1 := f3 (mm (h0 315) k) (by omega) (by omega)
      have t2 := f3 (mm (h0 315) k + 1) (by omega) (by omega)
      rw [c4] at t1
      rw [c3, c5] at t2
      have etS : tS L (fl h0 k) (vv h0 k) = comb (tS L (fl h0 (mm (h0 315) k)) (vv h0 k)) (tS L (fl h0 (mm (h0 315) k)) (vv h0 k + 2 ^ fl h0 (mm (h0 315) k))) := by
        rw [c2] at b2 ⊢
        rw [tS, if_pos b2]
      have o1 := tS_ok h15 (fl h0 (mm (h0 315) k)) (vv h0 k)
      have o2 := tS_ok h15 (fl h0 (mm (h0 315) k)) (vv h0 k + 2 ^ fl h0 (mm (h0 315) k))
      refine ⟨⟨by omega, by omega⟩, ⟨by omega, by omega⟩, fun n1 e1 => ⟨⟨by omega, by omega⟩, ⟨by omega, by omega⟩, fun n2 e2 => ?_⟩⟩
      rw [t1] at e1
      rw [t2] at e2
      rw [e1, e2, ft_and_nat (by omega) (by omega), ft_or_nat (by omega) (by omega)]
      generalize tS L (fl h0 (mm (h0 315) k)) (vv h0 k) = A at *
      generalize tS L (fl h0 (mm (h0 315) k)) (vv h0 k + 2 ^ fl h0 (mm (h0 315) k)) = C at *
      have fin : ∀ h' : ftH, h' = ft_hs h 316 k ((comb A C : Nat) : Int) → ft_V k_Mo_laysParts 106 [some (.inr (.inr 309)), some (.inl ((k : Int) - 1)), none, none] [] h' R := fun h' e' => by
        refine ih h' (by omega) (fun c hc => by rw [e', ft_hs_ne c hc, f1 c hc]) (fun j hj => by rw [e', ft_hs_j (by omega), f2 j (by omega)]) (fun j j1 j2 => ?_)
        by_cases q : j = k
        · subst q
          rw [e', ft_hs_same, etS]
        · rw [e', ft_hs_j q]
          exact f3 j (by omega) j2
      refine ⟨fun q => ⟨⟨by omega, by omega⟩, fun h1 eh => fin h1 ?_⟩, fun q => ⟨⟨by omega, by omega⟩, fun h1 eh => fin h1 ?_⟩⟩
      · rw [eh]
        unfold comb
        rw [if_pos (by exact_mod_cast q)]
      · rw [eh]
        unfold comb
        rw [if_neg (fun r => q (by rw [r]; rfl))]
    · refine ih h (by omega) f1 (fun j hj => f2 j (by omega)) (fun j j1 j2 => ?_)
      by_cases q : j = k
      · subst q
        rcases a6 j (by omega) with ⟨b1, b2, b3⟩ | ⟨b1, -⟩
        · rw [f2 j (by omega), b3, tS_leaf' b2]
        · have := mm_pos (h0 315) j
          omega
      · exact f3 j (by omega) j2
theorem d_Mo_laysParts {h : ftH} {S : ftS} {P : List ftS} (hI : mcI h S P) {B : Int} (hok : sOk B S) : ft_C k_Mo_laysParts [.inr (.inr 309)] h (fun r h' => r = none ∧ (∀ c, c ≠ 309 → (c < 313 ∨ 317 ≤ c) → h' c = h c) ∧ (∀ j, j ≠ 10 → h' 309 j = h 309 j) ∧ ∃ K, pfI h' S.2.1 K) := by
  have hL := hok.2.1.1
  have h15 : hop15 S.2.1 := fun q hq => ⟨(hL.1 q hq).2.1, hok.2.1.2.1 q hq⟩
  refine ft_enter (n := 3) rfl (Nat.le_of_ble_eq_true rfl) rfl (b_Mo_laysParts_0 (fun h1 e1 => ?_))
  have n10 : h1 309 10 = ((0 : Nat) : Int) := by rw [e1]; exact ft_hs_same
  refine ⟨_, c_Mo_addsPart n10 (by omega), fun h2 hw => ?_⟩
  obtain ⟨-, u1, u2, u3, u4, u5, u6, u7⟩ := hw
  have fr1 : ∀ c, c ≠ 309 → (c < 313 ∨ 317 ≤ c) → h2 c = h c := fun c c1 c2 => by rw [u1 c c1 (by omega) (by omega) (by omega), e1, ft_hs_ne c c1]
  have fr2 : ∀ j, j ≠ 10 → h2 309 j = h 309 j := fun j hj => by rw [u2 j hj, e1, ft_hs_j hj]
  have hI2 : mcI h2 S P := mcI_fr hI (fr1 310 (by omega) (by omega)) (fr1 311 (by omega) (by omega)) (fr2 4 (by omega))
  have f0 : fl h2 0 = 32 := by unfold fl; rw [u6]; rfl
  have v0 : vv h2 0 = 0 := by unfold vv; rw [u5]; rfl
  have hp : ptI h2 S.2.1 0 := by
    refine ⟨by rw [u3]; rfl, ⟨Nat.zero_le _, fun j hj => absurd hj (Nat.not_lt_zero j)⟩, f0, v0, fun j hj => ?_, fun j hj => absurd hj (Nat.not_lt_zero j), fun j j1 j2 => ?_, ?_⟩
    · have : j = 0 := by rw [mm] at hj; omega
      rw [this, u6, f0, v0]
      exact ⟨by omega, nd_root⟩
    · have : j = 0 := by rw [mm] at j2; omega
      rw [this, u7]
    · simp only [mm, sm, f0, v0]
      have := tN_root hL hok.2.1.2.2
      push_cast
      omega
  refine v_Mo_lays1 hI2 hok (fun g K k1 k2 k3 k4 => ?_) 3842 0 h2 (by omega) hp (fun c _ _ => rfl) (fun j _ => rfl)
  refine v_Mo_lays2 h15 k1 k2 (fun g' l1 l2 => ⟨rfl, fun c c1 c2 => ?_, fun j hj => ?_, K, l1⟩) K g (Nat.le_refl K) (fun c _ => rfl) (fun j _ => rfl) (fun j j1 j2 => absurd j2 (by omega))
  · rw [l2 c (by omega), k3 c c1 c2, fr1 c c1 c2]
  · rw [l2 309 (by omega), k4 j hj, fr2 j hj]
