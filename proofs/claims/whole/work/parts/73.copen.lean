/-! a node is gone through -/
theorem cp_mk {h : ftH} {L : List (Int × Int)} {j d a b : Nat} {v : Int} (hn : ndOk d v) (e3 : h 123 j = 64 * v + (32 - (d : Int))) (e4 : h 124 j = (a : Int)) (e5 : h 125 j = (b : Int)) (hr : rngI L d v a b) (e7 : h 127 j = arF L (32 - d) v) (e8 : h 128 j = 0) : cpI h L j ∧ cd h j = d ∧ cv h j = v := by
  have hd := hn.1
  have c1 : cd h j = d := by unfold cd; rw [e3, (nd_eq hd).2]; omega
  have c2 : cv h j = v := by unfold cv; rw [e3]; exact (nd_eq hd).1
  unfold cpI
  rw [c1, c2]
  exact ⟨⟨hn, e3, ⟨a, b, e4, e5, hr⟩, e7, e8⟩, rfl, rfl⟩
theorem no_own {L : List (Int × Int)} {d : Nat} {v : Int} {a b : Nat} (h1 : rngI L d v a b) (h2 : rngP L d v a b) : ¬ ∃ q ∈ L, rIn d v q = true ∧ q.1 % 64 = 32 - d := by
  rintro ⟨q, hq, q1, q2⟩
  obtain ⟨i, hi, rfl⟩ := mem_at hq
  have := rP_at.mp ((h2.2.2 i hi).mpr ((h1.2.2 i hi).mp q1))
  unfold kN at this
  simp only at q2
  omega
theorem v_Co_mid {b : Nat} (hb : ft_sh b = some (.inl 4)) {L : List (Int × Int)} (hL : lOk L) {h : ftH} (hS : setI h b L) {k : Int} {d : Nat} {v x7 : Int} (hn : ndOk (d + 1) v) {a t : Nat} (hat : a ≤ t) (htL : t ≤ L.length) (h80 : L.length ≤ 80) {R : Option ftV → ftH → Prop} (hk : ∀ m : Nat, a ≤ m → m ≤ t → (∀ i, a ≤ i → i < m → kS L i < v + 2 ^ d) → (m < t → v + 2 ^ d ≤ kS L m) → ft_V k_Co_open 213 [some (.inr (.inr 122)), some (.inl k), none, some (.inl (a : Int)), some (.inl (t : Int)), some (.inr (.inl v)), none, some (.inl x7), none, some (.inr (.inl (2 ^ d))), none, some (.inl (m : Int)), none] [] h R) :
    ∀ n m : Nat, m + n = t → a ≤ m → (∀ i, a ≤ i → i < m → kS L i < v + 2 ^ d) → ft_V k_Co_open 181 [some (.inr (.inr 122)), some (.inl k), some (.inr (.inr b)), some (.inl (a : Int)), some (.inl (t : Int)), some (.inr (.inl v)), none, some (.inl x7), none, some (.inr (.inl (2 ^ d))), none, some (.inl (m : Int)), none] [] h R := by
  have hrg := nd_rng hn
  have hp := p2_pos d
  have hs := p2_succ d
  intro n
  induction n with
  | zero =>
    intro m hm h1 h2
    exact b_Co_open_181 hb ⟨fun _ => hk m h1 (by omega) h2 (fun q => by omega), fun c => absurd (by omega) c⟩
  | succ n ih =>
    intro m hm h1 h2
    have hmL : m < L.length := by omega
    have hSm := (hS.2.2 m hmL).1
    have hpk := kAt_pK hL hmL
    refine b_Co_open_181 hb ⟨fun c => absurd c (by omega), fun _ => ?_⟩
    rw [Int.toNat_natCast, hSm, ft_addL_eq ⟨by omega, by omega⟩]
    refine ⟨⟨by omega, by have := hS.2.1; omega⟩, hpk.1.1, fun c => hk m h1 (by omega) h2 (fun _ => c), fun c => ?_⟩
    rw [ft_add_eq ⟨by omega, by omega⟩]
    refine ih (m + 1) (by omega) (by omega) (fun i i1 i2 => ?_)
    by_cases e : i = m
    · rw [e]
      unfold kS
      omega
    · exact h2 i i1 (by omega)
theorem cut_same {d : Nat} {v x y : Int} (hn : ndOk d v) (hx : v ≤ x ∧ x < v + 2 ^ d) (hy : v ≤ y ∧ y < v + 2 ^ d) : x / 2 ^ d = y / 2 ^ d := by
  have hp := p2_pos d
  have hm := nd_mod hn
  obtain ⟨c, hc⟩ := Int.dvd_of_emod_eq_zero hm
  have q1 : ∀ x : Int, v ≤ x → x < v + 2 ^ d → x / 2 ^ d = c := fun x x1 x2 => by
    refine Int.ediv_eq_iff_of_pos hp |>.mpr ⟨?_, ?_⟩
    · rw [Int.mul_comm]; omega
    · rw [Int.mul_comm]; omega
  rw [q1 x hx.1 hx.2, q1 y hy.1 hy.2]
theorem hb_ne {b c x : Nat} (h : b + 3 ≤ 122 ∨ 133 ≤ b) (hx : 122 ≤ x ∧ x < 133) (c1 : b ≤ c) (c2 : c < b + 3) : c ≠ x := by omega
theorem v_Co_open52 {b : Nat} (hb : ft_sh b = some (.inl 4)) (hb122 : b + 3 ≤ 122 ∨ 133 ≤ b) {L : List (Int × Int)} (hL : lOk L) (h60 : L.length ≤ 60) {h : ftH} {nk : Nat → Nat} {k : Nat} (hco : coI h L nk k) (hkm : k < mk nk k) {g : ftH} (hg : ∀ c j, ¬ (c = 127 ∧ j = k) → g c j = h c j) (hg7 : g 127 k = arF L (33 - cd h k) (cv h k)) (hS : setI g b L) {a a' t : Nat} (h4 : h 124 k = (a : Int)) (h5 : h 125 k = (t : Int)) (hrI : rngI L (cd h k) (cv h k) a t) (hrP : rngP L (cd h k) (cv h k) a' t) (haa : a' = a ∨ (a' = a + 1 ∧ ∃ q ∈ L, rIn (cd h k) (cv h k) q = true ∧ q.1 % 64 = 32 - cd h k)) {R : Option ftV → ftH → Prop} (hk : ∀ (h' : ftH) (n : Nat), coI h' L (updN nk k n) (k + 1) → (∀ c, c < 122 ∨ 131 ≤ c → h' c = g c) → R none h') :
    ft_V k_Co_open 52 [some (.inr (.inr 122)), some (.inl (k : Int)), some (.inr (.inr b)), some (.inl (a' : Int)), some (.inl (t : Int)), none, none, none, none, none, none, none, none] [] g R := by
  have hsm := coI_small hco
  have hpk := hco.2.2.2.2.2.1 k (Nat.le_refl k) hkm
  have hn := hpk.1
  have hkey : g 123 k = 64 * cv h k + (32 - (cd h k : Int)) := by rw [hg 123 k (by omega)]; exact hpk.2.1
  have h28 : h 128 k = 0 := hpk.2.2.2.2
  have hcd : ∀ j, cd g j = cd h j := fun j => by unfold cd; rw [hg 123 j (by omega)]
  have hcv : ∀ j, cv g j = cv h j := fun j => by unfold cv; rw [hg 123 j (by omega)]
  have hwk : cwH h L k = (cwt L (cd h k) (cv h k) (t - a) : Int) := by unfold cwH; rw [h4, h5, show ((t : Int) - (a : Int)).toNat = t - a by omega]
  generalize hD : cd h k = D at *
  generalize hV : cv h k = V at *
  have hD32 := hn.1
  have hrg := nd_rng hn
  have g10 : g 122 10 = (mk nk k : Int) := by rw [hg 122 10 (by omega)]; exact hco.1
  by_cases c : a' < t
  · have haL : a' < L.length := by have := hrP.2.1; omega
    have htL : t - 1 < L.length := by have := hrP.2.1; omega
    have ht1 : a' ≤ t - 1 ∧ t - 1 < t := ⟨by omega, by omega⟩
    have hf := kAt_pK hL haL
    have hgK := kAt_pK hL htL
    have pa := rP_at.mp ((hrP.2.2 a' haL).mpr ⟨Nat.le_refl a', c⟩)
    have pt := rP_at.mp ((hrP.2.2 (t - 1) htL).mpr ⟨by omega, by omega⟩)
    have hhR := rng_some hrP c
    refine b_Co_open_52 hb ⟨fun _ => ?_, fun q => absurd (by omega) q⟩
    rw [Int.toNat_natCast, hkey, (nd_eq hD32).1, (nd_eq hD32).2, ft_sub_eq ⟨by omega, by omega⟩, Int.toNat_natCast, show ((t : Int) - 1).toNat = t - 1 by omega, (hS.2.2 a' haL).1, (hS.2.2 (t - 1) htL).1]
    refine ⟨⟨by omega, by omega⟩, by omega, fun n3 e3 => ⟨⟨by omega, by omega⟩, by omega, fun n6 e6 => ⟨⟨by omega, by have := hS.2.1; omega⟩, ⟨by omega, by have := hS.2.1; omega⟩, ?_⟩⟩⟩
    rw [e3, e6]
    refine ⟨_, c_Co_common hf hgK hD32 (by unfold kN at pa; omega) (cut_same hn ⟨pa.1, pa.2.1⟩ ⟨pt.1, pt.2.1⟩), fun z9 h1 _ hw => ?_⟩
    obtain ⟨rfl, dz, hz, d1, d2, d3, d4⟩ := hw
    have hz := injI hz
    subst hz
    have ea : ft_add (32 - (D : Int)) 1 = 33 - (D : Int) := by rw [ft_add_eq ⟨by omega, by omega⟩]; omega
    rw [ea]
    clear ea
    refine ⟨fun q => ?_, fun q => ?_⟩
    · -- two halves
      obtain ⟨d, rfl⟩ : ∃ d, D = d + 1 := by
        cases D with
        | zero => exact absurd hhR (hR_0 hL _)
        | succ d => exact ⟨d, rfl⟩
      refine ⟨⟨by omega, by omega⟩, fun h2 e2 n10 e10 => ?_⟩
      have e10 : n10 = 2 ^ d := by
        rw [e10, ft_size (by omega) (by omega), show (33 : Int) - ((d + 1 : Nat) : Int) = 32 - (d : Int) by push_cast; omega, pSz_nd (by omega)]
      rw [e10]
      have r2 : ∀ c j, ¬ (c = 128 ∧ j = k) → h2 c j = h1 c j := fun c j hc => by
        rw [e2]
        by_cases q1 : c = 128
        · rw [q1]; exact ft_hs_j (fun q2 => hc ⟨q1, q2⟩)
        · rw [ft_hs_ne c q1]
      have hS2 : setI h2 b L := setI_fr hS (fun c c1 c2 => by rw [e2]; exact ft_hs_ne c (hb_ne hb122 (by decide) c1 c2))
      refine v_Co_mid hb hL hS2 hn (by omega) hrP.2.1 (by omega) (fun m m1 m2 m3 m4 => ?_) (t - a') a' (by omega) (Nat.le_refl a') (fun i i1 i2 => by omega)
      obtain ⟨rl, rr⟩ := cl_split hL hrP m1 m2 m3 m4
      have hp := p2_pos d
      have hps := p2_succ d
      have ea : ft_add (32 - ((d + 1 : Nat) : Int)) 1 = 32 - (d : Int) := by rw [ft_add_eq ⟨by push_cast; omega, by push_cast; omega⟩]; push_cast; omega
      have ev : ft_addL V (2 ^ d) = V + 2 ^ d := ft_addL_eq ⟨by omega, by omega⟩
      have h27 : h2 127 k = arF L (33 - ((d + 1 : Nat) : Int)) V := by rw [r2 127 k (by omega)]; exact hg7
      have e33 : (33 : Int) - ((d + 1 : Nat) : Int) = 32 - d := by push_cast; omega
      refine b_Co_open_213 ?_
      rw [ea, ev, Int.toNat_natCast]
      clear ea ev
      refine ⟨⟨⟨by omega, by omega⟩, by omega, by omega⟩, ⟨by omega, by omega⟩, _, c_Co_addNode (m := mk nk k) (by rw [r2 122 10 (by omega)]; exact g10) (by omega), fun h3 hw3 => ?_⟩
      obtain ⟨-, u1, u2, u3, u4, u5, u6, u7, u8, u9, u10, u11⟩ := hw3
      refine ⟨⟨⟨by omega, by omega⟩, by omega, by omega⟩, ⟨by omega, by omega⟩, _, c_Co_addNode (m := mk nk k + 1) u2 (by omega), fun h6 hw6 => ?_⟩
      obtain ⟨-, w1, w2, w3, w4, w5, w6, w7, w8, w9, w10, w11⟩ := hw6
      have h37 : h3 127 k = arF L (33 - ((d + 1 : Nat) : Int)) V := by rw [u3 127 k (by omega) (by omega) (by omega), h27]
      have old : ∀ c j, 123 ≤ c → c < 131 → j < mk nk k → ¬ (c = 127 ∧ j = k) → ¬ (c = 128 ∧ j = k) → h6 c j = h c j := fun c j c1 c2 c3 c4 c5 => by
        rw [w3 c j c1 c2 (by omega), u3 c j c1 c2 (by omega), r2 c j c5, hg c j c4]
      have hl := cp_mk (h := h6) (L := L) (j := mk nk k) (nd_left hn) (by rw [w3 123 _ (by omega) (by omega) (by omega), u4]) (by rw [w3 124 _ (by omega) (by omega) (by omega), u5]) (by rw [w3 125 _ (by omega) (by omega) (by omega), u6]) rl (by rw [w3 127 _ (by omega) (by omega) (by omega), u8, h27, e33]) (by rw [w3 128 _ (by omega) (by omega) (by omega), u9])
      have hr := cp_mk (h := h6) (L := L) (j := mk nk k + 1) (nd_right hn) w4 w5 w6 rr (by
        rw [w8, h37, e33]
        have := arF_in hL hn (x := V + 2 ^ d) ⟨by omega, by omega⟩
        rw [e33] at this
        exact this.symm) w9
      have ck : cd h6 k = d + 1 := by unfold cd; rw [old 123 k (by omega) (by omega) hkm (by omega) (by omega)]; exact hD
      have cvk : cv h6 k = V := by unfold cv; rw [old 123 k (by omega) (by omega) hkm (by omega) (by omega)]; exact hV
      refine hk h6 2 (co_step hco hkm ?_ (fun c j c1 c2 c3 c4 => old c j c1 c2 c3 (by omega) (by omega)) (fun c c1 c2 c3 c4 => old c k c1 c2 hkm (by omega) (by omega)) ?_ ?_ (fun i hi => ?_) ?_) (fun c hc => by rw [w1 c hc, u1 c hc, e2, ft_hs_ne c (by omega)])
      · rw [w2]
      · rw [w3 127 k (by omega) (by omega) (by omega), h37, hD, hV]
      · refine Or.inr (Or.inr ⟨?_, rfl, ?_, ?_, ?_, ?_, ?_⟩)
        · rw [w3 128 k (by omega) (by omega) (by omega), u3 128 k (by omega) (by omega) (by omega), e2, ft_hs_same]
        · rw [ck, cvk]; exact hhR
        · rw [ck, hl.2.1]
        · rw [hr.2.1, hl.2.1]
        · rw [hl.2.2, cvk]
        · rw [hr.2.2, cvk, hl.2.1]
      · have hi2 : i = 0 ∨ i = 1 := by omega
        rcases hi2 with e | e
        · subst e
          exact ⟨hl.1, by rw [Nat.add_zero, w3 126 _ (by omega) (by omega) (by omega), u7], by rw [Nat.add_zero, w3 129 _ (by omega) (by omega) (by omega), u10], by rw [Nat.add_zero, w3 130 _ (by omega) (by omega) (by omega), u11]⟩
        · subst e
          exact ⟨hr.1, w7, w10, w11⟩
      · rw [show mk nk k + 2 = mk nk k + 1 + 1 by omega, sm, sm, hwk]
        have c1 : cwH h6 L (mk nk k) = (cwt L d V (m - a') : Int) := by
          unfold cwH
          rw [hl.2.1, hl.2.2, w3 125 _ (by omega) (by omega) (by omega), u6, w3 124 _ (by omega) (by omega) (by omega), u5, show ((m : Int) - (a' : Int)).toNat = m - a' by omega]
        have c2 : cwH h6 L (mk nk k + 1) = (cwt L d (V + 2 ^ d) (t - m) : Int) := by
          unfold cwH
          rw [hr.2.1, hr.2.2, w6, w5, show ((t : Int) - (m : Int)).toNat = t - m by omega]
        rw [c1, c2]
        have R1 := cwt_rng L d V (m - a')
        have R2 := cwt_rng L d (V + 2 ^ d) (t - m)
        have R0 := cwt_rng L (d + 1) V (t - a)
        have tight : ∀ w, ndOk d w → rngI L d w a' t → tgt L d w := fun w hw hrw => by
          have qa := rI_at.mp ((hrw.2.2 a' haL).mpr ⟨Nat.le_refl a', c⟩)
          have qt := rI_at.mp ((hrw.2.2 (t - 1) htL).mpr ht1)
          have hcs := cut_same hw ⟨qa.1, qa.2.1⟩ ⟨qt.1, qt.2.1⟩
          have hdz : dz = d := by
            rcases Nat.lt_or_ge d dz with q1 | q1
            · have : dz = d + 1 := by omega
              subst this
              rcases d4 with t1 | ⟨e, t1, t2, t3⟩
              · have := pa.2.2
                unfold kN at this
                omega
              · have : e = d := by omega
                subst this
                exact absurd hcs t3
            · push_cast at q
              omega
          subst hdz
          exact cl_tight hL c hrP.2.1 hw hrw d4
        rcases haa with ha | ⟨ha, hown⟩
        · subst ha
          have hno := no_own hrI hrP
          by_cases z1 : m = t
          · subst z1
            have T := cwt_tgt (tight V (nd_left hn) rl) (r := m - a') (by omega)
            have Z := cwt_0 (L := L) (d := d) (v := V + 2 ^ d)
            have N := cwt_not (L := L) (d := d + 1) (v := V) (r := m - a') (fun q1 => by
              rcases q1 with q1 | ⟨e, q2, q3, q4⟩
              · exact hno q1
              · have : e = d := by omega
                subst this
                obtain ⟨q, hq, hq2⟩ := q4
                obtain ⟨i, hi, rfl⟩ := mem_at hq
                have := (rr.2.2 i hi).mp hq2
                omega) (by omega)
            rw [Nat.sub_self, Z]
            omega
          · by_cases z2 : m = a'
            · subst z2
              have T := cwt_tgt (tight (V + 2 ^ d) (nd_right hn) rr) (r := t - m) (by omega)
              have Z := cwt_0 (L := L) (d := d) (v := V)
              have N := cwt_not (L := L) (d := d + 1) (v := V) (r := t - m) (fun q1 => by
                rcases q1 with q1 | ⟨e, q2, q3, q4⟩
                · exact hno q1
                · have : e = d := by omega
                  subst this
                  obtain ⟨q, hq, hq2⟩ := q3
                  obtain ⟨i, hi, rfl⟩ := mem_at hq
                  have := (rl.2.2 i hi).mp hq2
                  omega) (by omega)
              rw [Nat.sub_self, Z]
              omega
            · have := R1.2 (by omega)
              have := R2.2 (by omega)
              have := R0.2 (by omega)
              omega
        · subst ha
          have T0 := cwt_tgt (L := L) (d := d + 1) (v := V) (r := t - a) (Or.inl hown) (by omega)
          by_cases z1 : m = t
          · subst z1
            have T := cwt_tgt (tight V (nd_left hn) rl) (r := m - (a + 1)) (by omega)
            have Z := cwt_0 (L := L) (d := d) (v := V + 2 ^ d)
            rw [Nat.sub_self, Z]
            omega
          · by_cases z2 : m = a + 1
            · subst z2
              have T := cwt_tgt (tight (V + 2 ^ d) (nd_right hn) rr) (r := t - (a + 1)) (by omega)
              have Z := cwt_0 (L := L) (d := d) (v := V)
              rw [Nat.sub_self, Z]
              omega
            · have := R1.2 (by omega)
              have := R2.2 (by omega)
              omega
    · -- one child, deeper
      have hdz2 : dz + 2 ≤ D := by omega
      obtain ⟨w, hw⟩ : ∃ w, w = kS L a' - kS L a' % 2 ^ dz := ⟨_, rfl⟩
      obtain ⟨s1, s2, s3, s4, s5, s6⟩ := cl_single hL hn hrP c (by omega) (by unfold kN; exact d2) d3 hw
      have hrw := nd_rng s1
      have hpz := p2_pos dz
      refine ⟨⟨by omega, by have := hS.2.1; omega⟩, ?_⟩
      rw [(hS.2.2 a' haL).1]
      refine ⟨hf.1.1, fun n13 e13 n14 e14 => ?_⟩
      have hk64 : 0 ≤ kAt L a' / 64 ∧ kAt L a' / 64 < 4294967296 := by have := hf.1; omega
      have e14 : n14 = w := by
        have hdz32 : dz ≤ 32 := by omega
        have hle : (2 : Int) ^ dz ≤ 4294967296 := by have := pSz_le (32 - (dz : Int)); rw [pSz_nd hdz32] at this; exact this
        have e1 : ft_subL (ft_ushrL 4294967296 (32 - (dz : Int))) 1 = 2 ^ dz - 1 := by rw [ft_size (by omega) (by omega), pSz_nd hdz32, ft_subL_eq ⟨by omega, by omega⟩]
        have hmod := Int.emod_nonneg (kAt L a' / 64) (show (2 : Int) ^ dz ≠ 0 by omega)
        have hmod2 := Int.emod_lt_of_pos (kAt L a' / 64) hpz
        rw [e14, e13, e1, ft_andL_mask dz (by omega) hk64.1 ⟨by omega, by omega⟩, ft_subL_eq ⟨by omega, by omega⟩, hw]
        rfl
      rw [e14]
      refine ⟨⟨⟨by omega, by omega⟩, by omega, by omega⟩, ⟨by omega, by omega⟩, ?_⟩
      refine ⟨_, c_Co_addNode (m := mk nk k) g10 (by omega), fun h3 hw3 => ?_⟩
      obtain ⟨-, u1, u2, u3, u4, u5, u6, u7, u8, u9, u10, u11⟩ := hw3
      have old : ∀ c j, 123 ≤ c → c < 131 → j < mk nk k → ¬ (c = 127 ∧ j = k) → h3 c j = h c j := fun c j c1 c2 c3 c4 => by rw [u3 c j c1 c2 (by omega), hg c j c4]
      have hl := cp_mk (h := h3) (L := L) (j := mk nk k) s1 u4 u5 u6 s5 (by rw [u8, hg7, s6]) u9
      have ck : cd h3 k = D := by unfold cd; rw [old 123 k (by omega) (by omega) hkm (by omega)]; exact hD
      have cvk : cv h3 k = V := by unfold cv; rw [old 123 k (by omega) (by omega) hkm (by omega)]; exact hV
      refine hk h3 1 (co_step hco hkm ?_ (fun c j c1 c2 c3 c4 => old c j c1 c2 c3 (by omega)) (fun c c1 c2 c3 c4 => old c k c1 c2 hkm (by omega)) ?_ ?_ (fun i hi => ?_) ?_) u1
      · rw [u2]
      · rw [u3 127 k (by omega) (by omega) (by omega), hg7, hD, hV]
      · refine Or.inr (Or.inl ⟨?_, rfl, ?_, ?_, ?_, ?_, ?_, ?_⟩)
        · rw [old 128 k (by omega) (by omega) hkm (by omega)]; exact h28
        · rw [ck, cvk]; exact hhR
        · rw [ck, hl.2.1]; exact hdz2
        · rw [hl.2.1, hl.2.2]; exact s1
        · rw [cvk, hl.2.2]; exact s2
        · rw [cvk, hl.2.2, ck]; exact s3
        · rw [ck, cvk, hl.2.1, hl.2.2]; exact s4
      · have : i = 0 := by omega
        subst this
        exact ⟨hl.1, u7, u10, u11⟩
      · rw [sm, hwk]
        have c1 : cwH h3 L (mk nk k) = (cwt L dz w (t - a') : Int) := by
          unfold cwH
          rw [hl.2.1, hl.2.2, u6, u5, show ((t : Int) - (a' : Int)).toNat = t - a' by omega]
        rw [c1]
        have T := cwt_tgt (cl_tight hL c hrP.2.1 s1 s5 d4) (r := t - a') (by omega)
        rcases haa with ha | ⟨ha, hown⟩
        · subst ha
          have hno := no_own hrI hrP
          have N := cwt_not (L := L) (d := D) (v := V) (r := t - a') (fun q1 => by
            rcases q1 with q1 | ⟨e, q2, ⟨x, hx, hx2⟩, y, hy, hy2⟩
            · exact hno q1
            · subst q2
              have x1 := rIn_iff.mp (s4 x hx (rPr_half.mpr (Or.inl hx2)))
              have y1 := rIn_iff.mp (s4 y hy (rPr_half.mpr (Or.inr hy2)))
              have x2 := rIn_iff.mp hx2
              have y2 := rIn_iff.mp hy2
              by_cases z : w < V + 2 ^ e
              · have := nd_sub (nd_left hn) s1 (by omega) s2 z
                omega
              · omega) (by omega)
          omega
        · subst ha
          have T0 := cwt_tgt (L := L) (d := D) (v := V) (r := t - a) (Or.inl hown) (by omega)
          omega
  · refine b_Co_open_52 hb ⟨fun q => absurd q (by omega), fun _ => ?_⟩
    have hat : a' = t := by have := hrP.1; omega
    subst hat
    refine hk g 0 (co_step hco hkm (by rw [g10, Nat.add_zero]) (fun c j c1 c2 c3 c4 => hg c j (by omega)) (fun c c1 c2 c3 c4 => hg c k (by omega)) (by rw [hg7, hD, hV]) ?_ (fun i hi => absurd hi (Nat.not_lt_zero i)) ?_) (fun c _ => rfl)
    · refine Or.inl ⟨by rw [hg 128 k (by omega)]; exact h28, rfl, ?_⟩
      rw [hcd, hcv, hD, hV]
      exact rng_none hrP
    · rw [Nat.add_zero, hwk]
      have := (cwt_rng L D V (a' - a)).1
      omega
