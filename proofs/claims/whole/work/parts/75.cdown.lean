theorem inc1 {i : Nat} (h : i < 100000) : ft_add (i : Int) 1 = ((i + 1 : Nat) : Int) := by
  rw [ft_add_eq ⟨by omega, by omega⟩]
  omega
/-! handing down; the entries come into a set -/
theorem v_Co_small {s : Nat} (hs : s < 65536) {k : Nat} (hk : s.testBit k = true) (hk2 : ∀ j, j < k → s.testBit j = false) {h : ftH} {R : Option ftV → ftH → Prop} (hR : R (some (.inl (k : Int))) h) : ∀ m i : Nat, i + m = k → ft_V k_Co_smallestHop 2 [some (.inl (s : Int)), some (.inl (i : Int))] [] h R := by
  have h16 := bit16 hs hk
  intro m
  induction m with
  | zero =>
    intro i hi
    have e : i = k := by omega
    subst e
    exact b_Co_smallestHop_2 ⟨fun _ => hR, fun _ => ⟨fun _ => hR, fun c => absurd hk ((ft_bit2 hs (by omega)).mp c)⟩⟩
  | succ m ih =>
    intro i hi
    refine b_Co_smallestHop_2 ⟨fun c => absurd c (by omega), fun _ => ⟨fun c => absurd ((ft_bit2 hs (by omega)).mpr (by rw [hk2 i (by omega)]; decide)) c, fun _ => ?_⟩⟩
    rw [ft_add_eq ⟨by omega, by omega⟩]
    exact ih (i + 1) (by omega)
theorem c_Co_small {s : Nat} (hs : s < 65536) (h0 : s ≠ 0) {h : ftH} : ft_C k_Co_smallestHop [.inl (s : Int)] h (fun r h' => r = some (.inl (lo s : Int)) ∧ h' = h) := by
  obtain ⟨k, hk⟩ := ne_bit h0
  have := lo_spec hk
  exact ft_enter (n := 1) rfl (Nat.le_of_ble_eq_true rfl) rfl (b_Co_smallestHop_0 (v_Co_small hs this.1 this.2 ⟨rfl, rfl⟩ (lo s) 0 (by omega)))
theorem mk_in {nk : Nat → Nat} {i : Nat} (h0 : 0 < i) : ∀ n, i < mk nk n → ∃ j, j < n ∧ mk nk j ≤ i ∧ i < mk nk j + nk j := by
  intro n
  induction n with
  | zero => intro q; rw [mk] at q; omega
  | succ n ih =>
    intro q
    by_cases c : i < mk nk n
    · obtain ⟨j, j1, j2⟩ := ih c
      exact ⟨j, by omega, j2⟩
    · rw [mk] at q
      exact ⟨n, by omega, by omega, q⟩
def inh (h : ftH) (c : Nat) : Nat := if h 126 c < 0 then 0 else (h 131 (h 126 c).toNat).toNat
noncomputable def pendC (h : ftH) (L : List (Int × Int)) (k n : Nat) : List (Int × Int) := (List.range' k n).flatMap fun c => tE L (cd h c) (cv h c) (inh h c)
def elC (h : ftH) (k : Nat) : List (Int × Int) := (List.range k).flatMap fun j => if h 132 j < 0 then [] else [(h 123 j, h 132 j)]
theorem elC_succ {h : ftH} {k : Nat} : elC h (k + 1) = elC h k ++ if h 132 k < 0 then [] else [(h 123 k, h 132 k)] := by
  unfold elC
  rw [List.range_succ, List.flatMap_append, List.flatMap_cons, List.flatMap_nil, List.append_nil]
theorem elC_ext {h h' : ftH} {k : Nat} (f : ∀ j, j < k → h' 132 j = h 132 j ∧ h' 123 j = h 123 j) : elC h' k = elC h k := by
  unfold elC
  rw [List.flatMap_def, List.flatMap_def]
  congr 1
  apply List.map_congr_left
  intro j hj
  rw [List.mem_range] at hj
  rw [(f j hj).1, (f j hj).2]
theorem pendC_ext {h h' : ftH} {L : List (Int × Int)} {k n : Nat} (f : ∀ j, k ≤ j → j < k + n → cd h' j = cd h j ∧ cv h' j = cv h j ∧ inh h' j = inh h j) : pendC h' L k n = pendC h L k n := by
  unfold pendC
  rw [List.flatMap_def, List.flatMap_def]
  congr 1
  apply List.map_congr_left
  intro j hj
  rw [List.mem_range'_1] at hj
  have := f j hj.1 hj.2
  rw [this.1, this.2.1, this.2.2]
theorem v_Co_down {L : List (Int × Int)} (hL : lOk L) (h15 : hop15 L) (h60 : L.length ≤ 60) {nk : Nat → Nat} {K : Nat} {h0 : ftH} (hp0 : csF h0 L nk K) (hu0 : upI h0 L nk K 1) {R : Option ftV → ftH → Prop} (hk : ∀ h : ftH, (elC h K).Perm (ortc L) → (∀ c, c ≠ 131 → c ≠ 132 → h c = h0 c) → R (some (.inl ((ortc L).length : Int))) h) :
    ∀ (m k : Nat) (h : ftH), k + m = K → (∀ c, c ≠ 131 → c ≠ 132 → h c = h0 c) → (∀ j, j < k → 0 ≤ h 131 j ∧ h 131 j < 16) → (elC h k ++ pendC h L k (mk nk k - k)).Perm (ortc L) → ft_V k_Co_handDown 4 [some (.inr (.inr 122)), some (.inl ((elC h k).length : Int)), some (.inl (k : Int)), none, none] [] h R := by
  have ho := ortc_ok hL h15
  have h357 := hp0.2.2.1
  intro m
  induction m with
  | zero =>
    intro k h hm f h31 hperm
    have ek : k = K := by omega
    subst ek
    refine b_Co_handDown_4 ⟨fun _ => ?_, fun c => absurd (by rw [f 122 (by omega) (by omega), hp0.1]; omega) c⟩
    have hperm : (elC h k).Perm (ortc L) := by
      have e0 : pendC h L k (mk nk k - k) = [] := by rw [hp0.2.1.1, Nat.sub_self]; rfl
      rw [e0, List.append_nil] at hperm
      exact hperm
    rw [hperm.length_eq]
    exact hk h hperm f
  | succ m ih =>
    intro k h hm f h31 hperm
    have hkK : k < K := by omega
    have hkm := hp0.2.1.2 k hkK
    have hp : csF h L nk K := csF_fr hp0 (fun c c1 c2 => f c (by omega) (by omega))
    have gcd : ∀ (g : ftH), (∀ c, c ≠ 131 → c ≠ 132 → g c = h0 c) → ∀ j, cd g j = cd h0 j ∧ cv g j = cv h0 j := fun g hg j => by
      unfold cd cv
      rw [hg 123 (by omega) (by omega)]
      exact ⟨rfl, rfl⟩
    have hu : upI h L nk K 1 := by
      unfold upI
      simp only [(gcd h f _).1, (gcd h f _).2, f 128 (by omega) (by omega), f 129 (by omega) (by omega), f 130 (by omega) (by omega)]
      exact hu0
    have hst : stOf h k = (tS L (cd h k) (cv h k) : Int) := stOf_eq h15 hp hu hkK (by omega)
    obtain ⟨b1, b2, b3, b4, b5, b6⟩ := hp.2.2.2.2 k hkK
    have hsok := tS_ok h15 (cd h k) (cv h k)
    have hlo := tS_lo h15 (cd h k) (cv h k)
    have hlen : (elC h k).length + 0 ≤ 60 := by
      have := hperm.length_eq
      rw [List.length_append] at this
      omega
    have out : ∀ c, 0 < c → c < mk nk k → ∃ j, j < k ∧ h 126 c = (j : Int) := fun c c1 c2 => by
      obtain ⟨j, j1, j2, j3⟩ := mk_in c1 k c2
      have := (hp.2.2.2.2 j (by omega)).2.2.2.1 (c - mk nk j) (by omega)
      rw [show mk nk j + (c - mk nk j) = c by omega] at this
      exact ⟨j, j1, this⟩
    have epend : pendC h L k (mk nk k - k) = tE L (cd h k) (cv h k) (inh h k) ++ pendC h L (k + 1) (mk nk k - (k + 1)) := by
      unfold pendC
      rw [show mk nk k - k = (mk nk k - (k + 1)) + 1 by omega, List.range'_succ, List.flatMap_cons]
    have hin16 : inh h k < 16 := by
      unfold inh
      split
      · omega
      · by_cases c : k = 0
        · subst c
          have := hp.2.2.2.1.2.2
          omega
        · obtain ⟨j, j1, j2⟩ := out k (by omega) hkm
          rw [j2, Int.toNat_natCast]
          have := h31 j j1
          omega
    rw [epend, tE_eq] at hperm
    have tl : ∀ (g : ftH) (y : Nat), (∀ c, c ≠ 131 → c ≠ 132 → g c = h0 c) → (∀ j, j ≠ k → g 131 j = h 131 j ∧ g 132 j = h 132 j) → g 131 k = (y : Int) → y = eH (tS L (cd h k) (cv h k)) (inh h k) → y < 16 → (if g 132 k < 0 then [] else [(g 123 k, g 132 k)]) = eL (64 * cv h k + (32 - (cd h k : Int))) (tS L (cd h k) (cv h k)) (inh h k) → ft_V k_Co_handDown 4 [some (.inr (.inr 122)), some (.inl ((elC g (k + 1)).length : Int)), some (.inl ((k + 1 : Nat) : Int)), none, none] [] g R := by
      intro g y q1 q2 q3 q4 q5 q6
      have ce : ∀ j, cd g j = cd h j ∧ cv g j = cv h j := fun j => by rw [(gcd g q1 j).1, (gcd g q1 j).2, (gcd h f j).1, (gcd h f j).2]; exact ⟨rfl, rfl⟩
      have e26 : g 126 = h 126 := by rw [q1 126 (by omega) (by omega), f 126 (by omega) (by omega)]
      have e23 : g 123 = h 123 := by rw [q1 123 (by omega) (by omega), f 123 (by omega) (by omega)]
      refine ih (k + 1) g (by omega) q1 (fun j hj => ?_) ?_
      · by_cases c : j = k
        · rw [c, q3]; omega
        · rw [(q2 j c).1]; exact h31 j (by omega)
      · have e1 : elC g (k + 1) = elC h k ++ eL (64 * cv h k + (32 - (cd h k : Int))) (tS L (cd h k) (cv h k)) (inh h k) := by
          rw [elC_succ, q6, elC_ext (h := h) (fun j hj => ⟨(q2 j (by omega)).2, by rw [e23]⟩)]
        have e2 : pendC g L (k + 1) (mk nk (k + 1) - (k + 1)) = pendC h L (k + 1) (mk nk k - (k + 1)) ++ (List.range' (mk nk k) (nk k)).flatMap (fun c => tE L (cd h c) (cv h c) y) := by
          have e4 : List.range' (k + 1) (mk nk (k + 1) - (k + 1)) = List.range' (k + 1) (mk nk k - (k + 1)) ++ List.range' (mk nk k) (nk k) := by
            rw [mk, show mk nk k + nk k - (k + 1) = (mk nk k - (k + 1)) + nk k by omega, ← List.range'_append_1, show k + 1 + (mk nk k - (k + 1)) = mk nk k by omega]
          have e5 := pendC_ext (h := h) (h' := g) (L := L) (k := k + 1) (n := mk nk k - (k + 1)) (fun j j1 j2 => ⟨(ce j).1, (ce j).2, by
            obtain ⟨x, x1, x2⟩ := out j (by omega) (by omega)
            unfold inh
            rw [e26, x2, Int.toNat_natCast, (q2 x (by omega)).1]⟩)
          rw [← e5]
          unfold pendC
          rw [e4, List.flatMap_append]
          congr 1
          rw [List.flatMap_def, List.flatMap_def]
          congr 1
          apply List.map_congr_left
          intro c hc
          rw [List.mem_range'_1] at hc
          have h26 := b4 (c - mk nk k) (by omega)
          rw [show mk nk k + (c - mk nk k) = c by omega] at h26
          have : inh g c = y := by
            unfold inh
            rw [e26, h26, if_neg (by omega), Int.toNat_natCast, q3, Int.toNat_natCast]
          rw [(ce c).1, (ce c).2, this]
        have e3 := b6 (inh h k)
        rw [← q4] at e3
        rw [e1, e2, ← e3, q4, List.append_assoc]
        refine List.Perm.trans (List.Perm.append_left _ ?_) hperm
        rw [List.append_assoc]
        exact List.Perm.append_left _ List.perm_append_comm
    have body : ∀ n4 : Int, n4 = stOf h k → ((ft_and n4 (ft_shl 1 (inh h k : Int)) = 0 → (∃ R5 : Option ftV → ftH → Prop, ft_C k_Co_smallestHop [.inl n4] h R5 ∧ ∀ (z7 : Int) (h1 : ftH), ft_in z7 → R5 (some (.inl z7)) h1 → ((0 ≤ (k : Int) ∧ (k : Int) < 360) ∧ (∀ h2 : ftH, h2 = ft_hs h1 132 k z7 → ((0 ≤ (k : Int) ∧ (k : Int) < 360) ∧ ((0 ≤ (k : Int) ∧ (k : Int) < 360) ∧ (∀ h3 : ftH, h3 = ft_hs h2 131 k (h2 132 k) → ft_V k_Co_handDown 4 [some (.inr (.inr 122)), some (.inl (((elC h k).length + 1 : Nat) : Int)), some (.inl ((k + 1 : Nat) : Int)), none, none] [] h3 R))))))) ∧ (¬ (ft_and n4 (ft_shl 1 (inh h k : Int)) = 0) → ((0 ≤ (k : Int) ∧ (k : Int) < 360) ∧ (∀ h4 : ftH, h4 = ft_hs h 132 k ((-1)) → ((0 ≤ (k : Int) ∧ (k : Int) < 360) ∧ (∀ h5 : ftH, h5 = ft_hs h4 131 k (inh h k : Int) → ft_V k_Co_handDown 4 [some (.inr (.inr 122)), some (.inl ((elC h k).length : Int)), some (.inl ((k + 1 : Nat) : Int)), none, none] [] h5 R)))))) := by
      intro n4 e4
      rw [hst] at e4
      rw [e4, ft_bit2 hsok.2 hin16]
      refine ⟨fun c => ⟨_, c_Co_small hsok.2 hsok.1, fun z7 h1 _ hw => ⟨⟨by omega, by omega⟩, fun h2 e2 => ⟨⟨by omega, by omega⟩, ⟨by omega, by omega⟩, fun h3 e3 => ?_⟩⟩⟩, fun c => ⟨⟨by omega, by omega⟩, fun h4 e4 => ⟨⟨by omega, by omega⟩, fun h5 e5 => ?_⟩⟩⟩
      · have hz := injI hw.1
        have hh := hw.2
        subst hh
        rw [hz] at e2
        have k32 : h2 132 k = (lo (tS L (cd h1 k) (cv h1 k)) : Int) := by rw [e2]; exact ft_hs_same
        rw [k32] at e3
        have x32 : h3 132 k = (lo (tS L (cd h1 k) (cv h1 k)) : Int) := by rw [e3, ft_hs_ne 132 (by omega), k32]
        have q1 : ∀ c, c ≠ 131 → c ≠ 132 → h3 c = h0 c := fun c c1 c2 => by rw [e3, ft_hs_ne c c1, e2, ft_hs_ne c c2, f c c1 c2]
        have hel : eL (64 * cv h1 k + (32 - (cd h1 k : Int))) (tS L (cd h1 k) (cv h1 k)) (inh h1 k) = [(64 * cv h1 k + (32 - (cd h1 k : Int)), (lo (tS L (cd h1 k) (cv h1 k)) : Int))] := if_neg c
        have key : h3 123 k = 64 * cv h1 k + (32 - (cd h1 k : Int)) := by rw [q1 123 (by omega) (by omega), ← f 123 (by omega) (by omega)]; exact b1.2
        have := tl h3 (lo (tS L (cd h1 k) (cv h1 k))) q1 (fun j hj => ⟨by rw [e3, ft_hs_j hj, e2, ft_hs_ne 131 (by omega)], by rw [e3, ft_hs_ne 132 (by omega), e2, ft_hs_j hj]⟩) (by rw [e3]; exact ft_hs_same) (if_neg c).symm hlo.2 (by rw [if_neg (by rw [x32]; omega), hel, key, x32])
        rw [elC_succ, if_neg (by rw [x32]; omega), elC_ext (h := h1) (fun j hj => ⟨by rw [e3, ft_hs_ne 132 (by omega), e2, ft_hs_j (by omega)], by rw [q1 123 (by omega) (by omega), f 123 (by omega) (by omega)]⟩), List.length_append, List.length_singleton] at this
        exact this
      · have hb : (tS L (cd h k) (cv h k)).testBit (inh h k) = true := by
          by_cases q : (tS L (cd h k) (cv h k)).testBit (inh h k) = true
          · exact q
          · exact absurd q c
        have x32 : h5 132 k = -1 := by rw [e5, ft_hs_ne 132 (by omega), e4, ft_hs_same]
        have q1 : ∀ c, c ≠ 131 → c ≠ 132 → h5 c = h0 c := fun c c1 c2 => by rw [e5, ft_hs_ne c c1, e4, ft_hs_ne c c2, f c c1 c2]
        have hel : eL (64 * cv h k + (32 - (cd h k : Int))) (tS L (cd h k) (cv h k)) (inh h k) = [] := if_pos hb
        have := tl h5 (inh h k) q1 (fun j hj => ⟨by rw [e5, ft_hs_j hj, e4, ft_hs_ne 131 (by omega)], by rw [e5, ft_hs_ne 132 (by omega), e4, ft_hs_j hj]⟩) (by rw [e5]; exact ft_hs_same) (if_pos hb).symm hin16 (by rw [if_pos (by rw [x32]; omega), hel])
        rw [elC_succ, if_pos (by rw [x32]; omega), List.append_nil, elC_ext (h := h) (fun j hj => ⟨by rw [e5, ft_hs_ne 132 (by omega), e4, ft_hs_j (by omega)], by rw [q1 123 (by omega) (by omega), f 123 (by omega) (by omega)]⟩)] at this
        exact this
    refine b_Co_handDown_4 ⟨fun c => absurd c (by rw [f 122 (by omega) (by omega), hp0.1]; omega), fun _ => ?_⟩
    rw [inc1 (i := k) (by omega), inc1 (i := (elC h k).length) (by omega), Int.toNat_natCast]
    refine ⟨⟨by omega, by omega⟩, fun c => ?_, fun c => ?_⟩
    · have hk0 : k ≠ 0 := fun q => by subst q; have := hp.2.2.2.1.2.2; omega
      obtain ⟨j, j1, j2⟩ := out k (by omega) hkm
      have hin : (inh h k : Int) = h 131 j := by
        unfold inh
        rw [j2, if_neg (by omega), Int.toNat_natCast]
        have := h31 j j1
        omega
      rw [j2, Int.toNat_natCast]
      refine ⟨⟨by omega, by omega⟩, ⟨by omega, by omega⟩, fun n1 e1 => ⟨⟨by omega, by omega⟩, fun n4 e4 => ?_⟩⟩
      rw [← hin] at e1
      rw [e1]
      exact body n4 e4
    · have hin : ((inh h k : Nat) : Int) = 0 := by
        unfold inh
        rw [if_pos (by omega)]
        rfl
      refine ⟨⟨by omega, by omega⟩, fun n10 e10 => ?_⟩
      have := body n10 e10
      rw [hin] at this
      exact this
theorem v_Co_compress {b : Nat} (hb : ft_sh b = some (.inl 4)) (hb122 : b + 3 ≤ 122 ∨ 133 ≤ b) {L : List (Int × Int)} (hL : lOk L) (h15 : hop15 L) (h60 : L.length ≤ 60) {h0 : ftH} (hS0 : setI h0 b L) {R : Option ftV → ftH → Prop} (hk : ∀ (h : ftH) (K : Nat), h 122 10 = (K : Int) → K ≤ 357 → (elC h K).Perm (ortc L) → (∀ c, c < 122 ∨ 133 ≤ c → h c = h0 c) → R (some (.inl ((ortc L).length : Int))) h) :
    ∀ (m k : Nat) (h : ftH) (nk : Nat → Nat), 358 - k ≤ m → coI h L nk k → (∀ c, c < 122 ∨ 133 ≤ c → h c = h0 c) → ft_V k_Co_compress 23 [some (.inr (.inr 122)), some (.inr (.inr b)), some (.inl (k : Int))] [] h R := by
  intro m
  induction m with
  | zero =>
    intro k h nk hm hco f
    have := coI_small hco
    have := hco.2.1.1
    omega
  | succ m ih =>
    intro k h nk hm hco f
    have hsm := coI_small hco
    have h0' := hco.1
    refine b_Co_compress_23 hb ⟨fun c => ?_, fun c => ⟨fun d => by omega, fun d => ?_⟩⟩
    · have ek : mk nk k = k := by have := hco.2.1.1; omega
      have hcs := csF_of hL h15 hco ek
      refine ⟨_, c_Co_gather h15 hcs (fun j hj => hco.2.2.2.1 j (by omega)), fun h1 hw => ?_⟩
      obtain ⟨-, u1, u2, u3⟩ := hw
      have hd := v_Co_down hL h15 h60 u1 u2 (R := fun r h' => r = some (.inl ((ortc L).length : Int)) ∧ (elC h' k).Perm (ortc L) ∧ ∀ c, c ≠ 131 → c ≠ 132 → h' c = h1 c) (fun g k1 k2 => ⟨rfl, k1, k2⟩) k 0 h1 (by omega) (fun c _ _ => rfl) (fun j hj => absurd hj (Nat.not_lt_zero j)) (by
        have e : pendC h1 L 0 (mk nk 0 - 0) = ortc L := by
          show (List.range' 0 1).flatMap (fun c => tE L (cd h1 c) (cv h1 c) (inh h1 c)) = ortc L
          have hin : inh h1 0 = 0 := by unfold inh; rw [u1.2.2.2.1.2.2]; rfl
          rw [List.range'_one, List.flatMap_cons, List.flatMap_nil, List.append_nil, u1.2.2.2.1.1, u1.2.2.2.1.2.1, hin]
          rfl
        have e2 : elC h1 0 = [] := rfl
        rw [e, e2, List.nil_append])
      refine ⟨_, ft_enter (n := 4) rfl (Nat.le_of_ble_eq_true rfl) rfl (b_Co_handDown_0 hd), fun z5 h2 _ hw => ?_⟩
      rw [injI hw.1]
      exact hk h2 k (by rw [hw.2.2 122 (by omega) (by omega)]; exact u1.1) (by omega) hw.2.1 (fun c hc => by rw [hw.2.2 c (by omega) (by omega), u3 c (by omega) (by omega), f c hc])
    · have hS : setI h b L := setI_fr hS0 (fun c c1 c2 => f c (by omega))
      refine ⟨_, c_Co_open hb hb122 hL h60 hco (by omega) hS, fun h5 hw => ?_⟩
      obtain ⟨-, ⟨n, hn⟩, u2⟩ := hw
      rw [ft_add_eq ⟨by omega, by omega⟩]
      exact ih (k + 1) h5 _ (by omega) hn (fun c hc => by rw [u2 c (by omega), f c hc])
/-- the compressor's arrays hold the entries -/
def coE (h : ftH) (L : List (Int × Int)) : Prop := ∃ K : Nat, h 122 10 = (K : Int) ∧ K ≤ 357 ∧ (elC h K).Perm (ortc L)
theorem c_Co_compress {b : Nat} (hb : ft_sh b = some (.inl 4)) (hb122 : b + 3 ≤ 122 ∨ 133 ≤ b) {L : List (Int × Int)} (hL : lOk L) (h15 : hop15 L) (h60 : L.length ≤ 60) {h : ftH} (hS : setI h b L) : ft_C k_Co_compress [.inr (.inr 122), .inr (.inr b)] h (fun r h' => r = some (.inl ((ortc L).length : Int)) ∧ coE h' L ∧ ∀ c, c < 122 ∨ 133 ≤ c → h' c = h c) := by
  refine ft_enter (n := 1) rfl (Nat.le_of_ble_eq_true rfl) rfl (b_Co_compress_0 hb (fun h1 e1 => ⟨⟨⟨by omega, by omega⟩, by omega, by omega⟩, _, c_Co_addNode (m := 0) (by rw [e1]; exact ft_hs_same) (by omega), fun h2 hw => ?_⟩))
  obtain ⟨-, u1, u2, u3, u4, u5, u6, u7, u8, u9, u10, u11⟩ := hw
  have hn2 : h1 b 2 = (L.length : Int) := by rw [e1, ft_hs_ne b (by omega)]; exact hS.1
  rw [hn2] at u6
  have f : ∀ c, c < 122 ∨ 133 ≤ c → h2 c = h c := fun c hc => by rw [u1 c (by omega), e1, ft_hs_ne c (by omega)]
  have hroot := nd_root
  have hr0 : rngI L 32 0 0 L.length := ⟨Nat.zero_le _, Nat.le_refl _, fun i hi => ⟨fun _ => ⟨Nat.zero_le i, hi⟩, fun _ => rI_at.mpr (by
    have := kS_rng hL hi
    exact ⟨this.1, by have e : (2 : Int) ^ 32 = 4294967296 := rfl; omega, by push_cast; omega⟩)⟩⟩
  have ar0 : arF L (32 - ((32 : Nat) : Int)) 0 = 0 := by
    unfold arF
    have : L.reverse.find? (fun q => decide (q.1 % 64 < 32 - ((32 : Nat) : Int)) && pInB q.1 0) = none := by
      rw [List.find?_eq_none]
      intro q hq
      rw [Bool.and_eq_true, decide_eq_true_eq]
      rintro ⟨q1, -⟩
      have := (hL.1 q (List.mem_reverse.mp hq)).1.1
      omega
    rw [this]
  have hc := cp_mk (h := h2) (L := L) (j := 0) nd_root (by rw [u4]; rfl) (a := 0) (b := L.length) (by rw [u5]; rfl) u6 hr0 (by rw [u8, ar0]) u9
  refine v_Co_compress hb hb122 hL h15 h60 hS (fun g K k1 k2 k3 k4 => ⟨rfl, ⟨K, k1, k2, k3⟩, k4⟩) 358 0 h2 (fun _ => 0) (by omega) ⟨by rw [u2]; rfl, ⟨Nat.zero_le _, fun j hj => absurd hj (Nat.not_lt_zero j)⟩, ⟨hc.2.1, hc.2.2, u7⟩, fun j hj => ?_, fun j hj => absurd hj (Nat.not_lt_zero j), fun j j1 j2 => ?_, ?_⟩ f
  · have : j = 0 := by rw [mk] at hj; omega
    subst this
    exact ⟨u10, u11⟩
  · have : j = 0 := by rw [mk] at j2; omega
    subst this
    exact hc.1
  · simp only [mk, sm]
    have e : cwH h2 L 0 = (cwt L 32 0 L.length : Int) := by
      unfold cwH
      rw [hc.2.1, hc.2.2, u6, u5, show ((L.length : Int) - 0).toNat = L.length by omega]
    rw [e]
    have R1 := cwt_rng L 32 0 L.length
    by_cases c : L.length = 0
    · rw [c, cwt_0]
      decide
    · have := R1.2 (by omega)
      push_cast
      omega
theorem mem_insK {k v : Int} {q : Int × Int} : ∀ {l : List (Int × Int)}, (∀ x ∈ l, x.1 ≠ k) → (q ∈ insK k v l ↔ q = (k, v) ∨ q ∈ l)
  | [], _ => by simp [insK]
  | x :: l, h => by
    have h1 := h x List.mem_cons_self
    have h2 := mem_insK (k := k) (v := v) (q := q) (l := l) (fun y hy => h y (List.mem_cons_of_mem _ hy))
    rw [insK]
    by_cases c : x.1 < k
    · rw [if_pos c, List.mem_cons, h2, List.mem_cons]
      constructor
      · rintro (a | a | a)
        · exact Or.inr (Or.inl a)
        · exact Or.inl a
        · exact Or.inr (Or.inr a)
      · rintro (a | a | a)
        · exact Or.inr (Or.inl a)
        · exact Or.inl a
        · exact Or.inr (Or.inr a)
    · rw [if_neg c, if_neg h1, List.mem_cons]
theorem v_Co_collect {b : Nat} (hb : ft_sh b = some (.inl 4)) (hb122 : b + 3 ≤ 122 ∨ 133 ≤ b) {L : List (Int × Int)} (ho : lOk (ortc L) ∧ (ortc L).length ≤ 60) {h0 : ftH} {K : Nat} (hK : h0 122 10 = (K : Int)) (h357 : K ≤ 357) (hperm : (elC h0 K).Perm (ortc L)) {R : Option ftV → ftH → Prop} (hk : ∀ h : ftH, ft_ps h b → ft_pl h b = ortc L → (∀ c, c < b ∨ b + 3 ≤ c → h c = h0 c) → R none h) :
    ∀ (m k : Nat) (h : ftH), k + m = K → (∀ c, c < b ∨ b + 3 ≤ c → h c = h0 c) → (0 ≤ h b 2 ∧ h b 2 ≤ ft_ln (b + 1)) → lOk (ft_pl h b) → (∀ q, q ∈ ft_pl h b ↔ q ∈ elC h0 k) → (ft_pl h b).length = (elC h0 k).length → ft_V k_Co_collect 7 [some (.inr (.inr 122)), some (.inr (.inr b)), some (.inl (k : Int))] [] h R := by
  have hln := ft_ln_ps hb
  intro m
  induction m with
  | zero =>
    intro k h hm f hz hl hmem hlen
    have ek : k = K := by omega
    subst ek
    refine b_Co_collect_7 hb ⟨fun _ => ?_, fun c => absurd (by rw [f 122 (by omega), hK]; omega) c⟩
    have : ft_pl h b = ortc L := sorted_ext (r := fun a b : Int × Int => a.1 < b.1) (fun a b h1 h2 => by omega) hl.2 ho.1.2 (fun x => by rw [hmem, hperm.mem_iff])
    exact hk h (ft_ps_of hz hl) this f
  | succ m ih =>
    intro k h hm f hz hl hmem hlen
    have hkK : k < K := by omega
    have hsplit : elC h0 K = elC h0 (k + 1) ++ (List.range' (k + 1) m).flatMap (fun j => if h0 132 j < 0 then [] else [(h0 123 j, h0 132 j)]) := by
      unfold elC
      rw [← List.flatMap_append]
      congr 1
      rw [List.range_eq_range', List.range_eq_range', ← hm, show k + (m + 1) = (k + 1) + m by omega, ← List.range'_append_1, Nat.zero_add]
    refine b_Co_collect_7 hb ⟨fun c => absurd c (by rw [f 122 (by omega), hK]; omega), fun _ => ?_⟩
    rw [Int.toNat_natCast, f 132 (by omega), f 123 (by omega), ft_add_eq ⟨by omega, by omega⟩]
    refine ⟨⟨by omega, by omega⟩, fun c => ?_, fun c => ⟨⟨by omega, by omega⟩, ⟨by omega, by omega⟩, ?_⟩⟩
    · have e : elC h0 (k + 1) = elC h0 k := by rw [elC_succ, if_pos c, List.append_nil]
      exact ih (k + 1) h (by omega) f hz hl (by rw [e]; exact hmem) (by rw [e]; exact hlen)
    · have e : elC h0 (k + 1) = elC h0 k ++ [(h0 123 k, h0 132 k)] := by rw [elC_succ, if_neg c]
      have hlenK := hperm.length_eq
      rw [hsplit, List.length_append, e, List.length_append, List.length_singleton] at hlenK
      have hin : (h0 123 k, h0 132 k) ∈ ortc L := by
        rw [← hperm.mem_iff, hsplit, e]
        simp
      have hq := ho.1.1 _ hin
      have hnd : ((elC h0 K).map (fun a => a.1)).Nodup := by
        refine (hperm.map (fun a => a.1)).nodup_iff.mpr ?_
        rw [List.Nodup, List.pairwise_map]
        exact ho.1.2.imp (fun q => by omega)
      have hne : ∀ q ∈ ft_pl h b, q.1 ≠ h0 123 k := fun q hq' heq => by
        rw [hsplit, e, List.append_assoc, List.map_append, List.nodup_append] at hnd
        exact hnd.2.2 q.1 (List.mem_map_of_mem ((hmem q).mp hq')) (h0 123 k) (by simp) heq
      have hszl : ((ft_pl h b).length : Int) = h b 2 := by rw [ft_pl_len]; omega
      have hsz : h b 2 < ft_ln (b + 1) := by omega
      have hnej : ∀ j : Nat, (j : Int) < h b 2 → h (b + 1) j ≠ h0 123 k := fun j hj => hne _ (List.mem_of_getElem? (ft_pl_get hj))
      refine ⟨_, c_PS_put hb (ft_ps_of hz hl), fun h1 hw => ?_⟩
      obtain ⟨-, u1, u2, u3, u4⟩ := hw
      have hpl := u3 (Or.inl hsz)
      refine ih (k + 1) h1 (by omega) (fun c hc => by rw [u1 c hc, f c hc]) u2 (by rw [hpl]; exact insK_ok hq.1 hq.2 _ hl) (fun q => ?_) ?_
      · rw [hpl, mem_insK hne, hmem, e, List.mem_append, List.mem_singleton]
        exact Or.comm
      · rw [hpl, insK_len hne, hlen, e, List.length_append, List.length_singleton]
theorem c_Co_collect {b : Nat} (hb : ft_sh b = some (.inl 4)) (hb122 : b + 3 ≤ 122 ∨ 133 ≤ b) {L : List (Int × Int)} (ho : lOk (ortc L) ∧ (ortc L).length ≤ 60) {h : ftH} (hE : coE h L) : ft_C k_Co_collect [.inr (.inr 122), .inr (.inr b)] h (fun r h' => r = none ∧ (ft_ps h' b ∧ ft_pl h' b = ortc L) ∧ ∀ c, c < b ∨ b + 3 ≤ c → h' c = h c) := by
  obtain ⟨K, k1, k2, k3⟩ := hE
  refine ft_enter (n := 1) rfl (Nat.le_of_ble_eq_true rfl) rfl (b_Co_collect_0 hb (fun h1 e1 => ?_))
  have f : ∀ c, c ≠ b → h1 c = h c := fun c hc => by rw [e1]; exact ft_hs_ne c hc
  have z : h1 b 2 = 0 := by rw [e1]; exact ft_hs_same
  have hn : ft_pl h1 b = [] := ft_pl_nil z
  have he : elC h1 K = elC h K := elC_ext (fun j _ => ⟨by rw [f 132 (by omega)], by rw [f 123 (by omega)]⟩)
  refine v_Co_collect hb hb122 ho (h0 := h1) (by rw [f 122 (by omega)]; exact k1) k2 (by rw [he]; exact k3) (fun g l1 l2 l3 => ⟨rfl, ⟨l1, l2⟩, fun c hc => by rw [l3 c hc, f c (by omega)]⟩) K 0 h1 (by omega) (fun c _ => rfl) ⟨by omega, by omega⟩ (by rw [hn]; exact ⟨by simp, List.Pairwise.nil⟩) (fun q => by rw [hn]; rfl) (by rw [hn]; rfl)
