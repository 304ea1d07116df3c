/-! SYNC OF THE REFERENCE: syncs; the state behind sync -/
theorem tgL_zero {E : List (Int × Int)} : ∀ n, tgL E 0 n = []
  | 0 => rfl
  | n + 1 => by
    rw [tgL_succ, tgL_zero n, List.nil_append]
    unfold tgO
    simp
theorem tOf_cap {B : Int} {S : ftS} (hok : sOk B S) : ((tOf S).length : Int) ≤ S.1 := by
  have hEo := eOf_ok hok
  have hcap := hok.1
  by_cases c : ∃ x : Nat × List (Nat × Bool), bestC (eOf S) (hOf S) S.1.toNat x.1 x.2
  · obtain ⟨x, hx⟩ := c
    have e : bB S = bD x.2 := (bsX_eq hx).2.1
    have h1 := tgL_len hEo.2.2 hx.2.1
    have h2 := hx.1
    unfold tOf
    rw [e, h1]
    omega
  · have e : bB S = 0 := by
      unfold bB bsX
      rw [dif_neg c]
      rfl
    unfold tOf
    rw [e, tgL_zero]
    simp only [List.length_nil]
    omega
theorem ctCh_0 {c : List Int} (hc : c.length = 5) : ctCh 0 c = c := by
  match c, hc with
  | [c0, c1, c2, c3, c4], _ => simp [ctCh]
theorem ctCh_1 {c : List Int} {n : Int} (hc : c.length = 5) : ctCh 1 (ctCh n c) = ctCh (n + 1) c := by
  match c, hc with
  | [c0, c1, c2, c3, c4], _ => simp [ctCh, Int.add_assoc]
theorem ctCh_rng {B n : Int} {c : List Int} (h0 : 0 ≤ n) (hc : c.length = 5 ∧ ∀ x ∈ c, 0 ≤ x ∧ x ≤ B) : (ctCh n c).length = 5 ∧ ∀ x ∈ ctCh n c, 0 ≤ x ∧ x ≤ B + n := by
  match c, hc with
  | [c0, c1, c2, c3, c4], hc =>
    have b0 := hc.2 c0 (by simp)
    have b1 := hc.2 c1 (by simp)
    have b2 := hc.2 c2 (by simp)
    have b3 := hc.2 c3 (by simp)
    have b4 := hc.2 c4 (by simp)
    unfold ctCh
    simp only
    refine ⟨rfl, fun x hx => ?_⟩
    simp only [List.mem_cons, List.not_mem_nil, or_false] at hx
    rcases hx with e | e | e | e | e <;> omega
theorem sHN_ok {B : Int} {S : ftS} (hok : sOk B S) {n : Nat} (hn : n ≤ (sP S).length) : lOk (sHN S n) ∧ plL (sHN S n) (tOf S) = (sP S).drop n ∧ togC (sHN S n) (tOf S) ≤ 80 ∧ ((sHN S n).length : Int) ≤ 2 * S.1 := by
  have hT := tOf_ok hok
  have hH := sH_ok hok
  have h1 := apN_ok hH.1 hT.1 n hn
  have h2 : togC (sHN S n) (tOf S) ≤ togC (sH S) (tOf S) := h1.2.2
  refine ⟨h1.1, h1.2.1, by omega, ?_⟩
  have h3 := tog_len (H := sHN S n) (T := tOf S)
  have h4 := tOf_cap hok
  have hcap := hok.1
  have h5 : (togC (sH S) (tOf S) : Int) ≤ 2 * S.1 := by
    unfold sH plH
    by_cases c : (togC S.2.2.1 (tOf S) : Int) ≤ 2 * S.1
    · rw [if_pos c]; exact c
    · rw [if_neg c]
      have h6 := tog_le (H := []) (T := tOf S)
      simp only [List.length_nil] at h6
      omega
  omega
/-- the state behind n changes -/
noncomputable def sN (S : ftS) (n : Nat) : ftS := (S.1, S.2.1, sHN S n, S.2.2.2.1, ctCh (n : Int) (sCt S))
theorem sN_ok {B : Int} {S : ftS} (hok : sOk B S) {n : Nat} (hn : n ≤ (sP S).length) : sOk (B + 300) (sN S n) := by
  have h1 := sHN_ok hok hn
  have h2 := ctCh_rng (n := (n : Int)) (by omega) (sCt_rng hok)
  have h3 := sP_len hok
  exact ⟨hok.1, hok.2.1, ⟨h1.1, h1.2.2.2⟩, hok.2.2.2.1, h2.1, fun x hx => by have := h2.2 x hx; omega⟩
theorem c_Mo_syncs {h : ftH} {S : ftS} {P : List ftS} (hI : mcI h S P) {B : Int} (hB : B + 300 ≤ 1000000000) (hok : sOk B S) (hla : flI h S) {lim n : Nat} (hlim : lim ≤ 1000) (hn : n = min lim (sP S).length) : ft_C k_Mo_syncs [.inr (.inr 309), .inl (lim : Int)] h (fun r h' => r = some (.inl (n : Int)) ∧ zFr h h' ∧ kI h' S ∧ mcI h' (sN S n) P ∧ ∀ x, 0 < n → (sP S)[n - 1]? = some x → mdI h' x) := by
  have hT := tOf_ok hok
  have hpl := sP_len hok
  have hct := sCt_rng hok
  refine ft_enter (n := 1) rfl (Nat.le_of_ble_eq_true rfl) rfl (b_Mo_syncs_0 ⟨_, c_Mo_preparesSync hI (by omega) hok hla, fun h1 hw => ?_⟩)
  obtain ⟨-, u1, u2, u3⟩ := hw
  have loop : ∀ (m i : Nat) (g : ftH), i + m = n → rFr h1 g → mcI g (sN S i) P → (∀ x, 0 < i → (sP S)[i - 1]? = some x → mdI g x) → ft_V k_Mo_syncs 6 [some (.inr (.inr 309)), some (.inl (lim : Int)), some (.inl (i : Int))] [] g (fun r h' => r = some (.inl (n : Int)) ∧ zFr h h' ∧ kI h' S ∧ mcI h' (sN S n) P ∧ ∀ x, 0 < n → (sP S)[n - 1]? = some x → mdI h' x) := by
    intro m
    induction m with
    | zero =>
      intro i g hm f gI gm
      have e : i = n := by omega
      subst e
      have fin : zFr h g ∧ kI g S ∧ mcI g (sN S i) P ∧ ∀ x, 0 < i → (sP S)[i - 1]? = some x → mdI g x := ⟨zFr_r u1 f, kI_fr f u2, gI, gm⟩
      have hi := sHN_ok hok (n := i) (by omega)
      have b6 := (mc_bound (sN_ok hok (n := i) (by omega)) (mc_eq gI).2.2.2.2).1
      refine b_Mo_syncs_6 ⟨fun _ => ⟨rfl, fin⟩, fun c => ⟨_, c_Mo_changesOne gI hi.1 ⟨b6.1, by omega⟩ hT.1 hT.2 (tgI_fr f u2.1) hi.2.2.1, fun z g2 _ w => ?_⟩⟩
      have hnil : plL (sN S i).2.2.1 (tOf S) = [] := by
        have : plL (sHN S i) (tOf S) = [] := by rw [hi.2.1, List.drop_eq_nil_iff]; omega
        exact this
      rcases w with ⟨-, w2, w3⟩ | ⟨x, l, w2, -⟩
      · have hz := injI w2
        subst hz
        subst w3
        exact ⟨fun _ => ⟨rfl, fin⟩, fun c => absurd rfl c⟩
      · rw [hnil] at w2; cases w2
    | succ m ih =>
      intro i g hm f gI gm
      have hi := sHN_ok hok (n := i) (by omega)
      have b6 := (mc_bound (sN_ok hok (n := i) (by omega)) (mc_eq gI).2.2.2.2).1
      refine b_Mo_syncs_6 ⟨fun c => absurd c (by omega), fun c => ⟨_, c_Mo_changesOne gI hi.1 ⟨b6.1, by omega⟩ hT.1 hT.2 (tgI_fr f u2.1) hi.2.2.1, fun z g2 _ w => ?_⟩⟩
      have hlt : i < (sP S).length := by omega
      have hdr : plL (sN S i).2.2.1 (tOf S) = (sP S)[i] :: (sP S).drop (i + 1) := by
        have : plL (sHN S i) (tOf S) = (sP S)[i] :: (sP S).drop (i + 1) := by rw [hi.2.1, List.drop_eq_getElem_cons hlt]
        exact this
      rcases w with ⟨w1, -, -⟩ | ⟨x, l, w1, w2, w3, w4, w5⟩
      · rw [hdr] at w1; cases w1
      · rw [hdr] at w1
        have ex : x = (sP S)[i] := (List.cons.inj w1).1.symm
        have hx : (sP S)[i]? = some x := by rw [ex]; exact List.getElem?_eq_getElem hlt
        have hz := injI w2
        subst hz
        refine ⟨fun c => absurd c (by omega), fun _ => ?_⟩
        rw [inc1 (by omega)]
        refine ih (i + 1) g2 (by omega) (rFr_tr f w3) ?_ (fun y _ hy => ?_)
        · have e1 : sN S (i + 1) = (S.1, S.2.1, apC (sHN S i) x, S.2.2.2.1, ctCh 1 (ctCh (i : Int) (sCt S))) := by
            unfold sN
            rw [ctCh_1 hct.1, show sHN S (i + 1) = apC (sHN S i) x from apN_succ hx]
            rfl
          rw [e1]
          exact w4
        · rw [Nat.add_sub_cancel, hx] at hy
          rw [← Option.some.inj hy]
          exact w5
  have h0 := loop n 0 h1 (by omega) (rFr_rfl h1) (by
    unfold sN
    rw [show ((0 : Nat) : Int) = 0 from rfl, ctCh_0 hct.1]
    exact u3) (fun x hx => absurd hx (Nat.lt_irrefl 0))
  exact h0
