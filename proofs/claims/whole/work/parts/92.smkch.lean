/-! THE PLAN OF SYNC, THE CLASS: makeChanges -/
theorem insK_len2 {k v : Int} : ∀ {l : List (Int × Int)}, l.Pairwise (fun a b => a.1 < b.1) → (∃ q ∈ l, q.1 = k) → (insK k v l).length = l.length
  | [], _, h => by obtain ⟨q, h, _⟩ := h; simp at h
  | x :: l, h, hk => by
    have p := List.pairwise_cons.mp h
    obtain ⟨q, q1, q2⟩ := hk
    rw [insK]
    by_cases c : x.1 < k
    · rw [if_pos c, List.length_cons, List.length_cons, insK_len2 p.2]
      rcases List.mem_cons.mp q1 with e | e
      · rw [e] at q2; omega
      · exact ⟨q, e, q2⟩
    · rw [if_neg c]
      by_cases d : x.1 = k
      · rw [if_pos d, List.length_cons, List.length_cons]
      · rcases List.mem_cons.mp q1 with e | e
        · rw [e] at q2; exact absurd q2 d
        · have := p.1 q e; omega
theorem cnt_lt {α : Type} {p q : α → Bool} : ∀ {l : List α}, (∀ x ∈ l, p x = true → q x = true) → (∃ x ∈ l, q x = true ∧ p x = false) → l.countP p + 1 ≤ l.countP q
  | [], _, h => by obtain ⟨x, h, _⟩ := h; simp at h
  | y :: l, h, hx => by
    rw [List.countP_cons, List.countP_cons]
    have hy := h y List.mem_cons_self
    have hm : l.countP p ≤ l.countP q := List.countP_mono_left (fun x hx => h x (List.mem_cons_of_mem _ hx))
    obtain ⟨x, x1, x2, x3⟩ := hx
    rcases List.mem_cons.mp x1 with e | e
    · rw [← e, x2, x3]; simp; omega
    · have ih := cnt_lt (fun x hx => h x (List.mem_cons_of_mem _ hx)) ⟨x, e, x2, x3⟩
      cases hp : p y with
      | false => simp; omega
      | true => rw [hy hp]; omega
theorem tog_step {H T : List (Int × Int)} (hH : lOk H) {x : ftX} (hx : x ∈ tgC H T ∨ x ∈ rmC H T) : togC (apC H x) T ≤ togC H T := by
  rcases hx with hx | hx
  · obtain ⟨t, t1, t2, t3⟩ := tgC_mem.mp hx
    have hkind : ¬ x.2.2.1 = 2 := by rw [t3]; simp only; split <;> omega
    have e : apC H x = insK t.1 t.2 H := by unfold apC; rw [if_neg hkind, t3]
    have hm : ∀ k, hasK (insK t.1 t.2 H) k = true ↔ k = t.1 ∨ hasK H k = true := fun k => by
      rw [hasK_iff, hasK_iff]
      constructor
      · rintro ⟨q, q1, q2⟩
        rcases (insK_mem2 hH.2).mp q1 with a | a
        · rw [a] at q2; exact Or.inl q2.symm
        · exact Or.inr ⟨q, a.1, q2⟩
      · rintro (a | ⟨q, q1, q2⟩)
        · exact ⟨(t.1, t.2), (insK_mem2 hH.2).mpr (Or.inl rfl), a.symm⟩
        · by_cases c : q.1 = t.1
          · exact ⟨(t.1, t.2), (insK_mem2 hH.2).mpr (Or.inl rfl), by simp only; omega⟩
          · exact ⟨q, (insK_mem2 hH.2).mpr (Or.inr ⟨q1, c⟩), q2⟩
    have hmono : ∀ s ∈ T, (!hasK (insK t.1 t.2 H) s.1) = true → (!hasK H s.1) = true := fun s _ q => by
      rw [Bool.not_eq_true'] at q ⊢
      cases c : hasK H s.1 with
      | false => rfl
      | true => rw [(hm s.1).mpr (Or.inr c)] at q; exact q
    rw [e]
    unfold togC
    by_cases c : hasK H t.1 = true
    · have h1 := insK_len2 (v := t.2) hH.2 (hasK_iff.mp c)
      have h2 := List.countP_mono_left (l := T) hmono
      omega
    · have h1 := insK_len (v := t.2) (fun q hq e => c (hasK_iff.mpr ⟨q, hq, e⟩))
      have h2 := cnt_lt hmono ⟨t, t1, by simpa using c, by rw [(hm t.1).mpr (Or.inl rfl)]; rfl⟩
      omega
  · obtain ⟨t, t1, t2, t3⟩ := rmC_mem.mp hx
    have e : apC H x = H.filter (fun q => q.1 != t.1) := by unfold apC; rw [if_pos (by rw [t3]), t3]
    rw [e]
    unfold togC
    have h1 := List.length_filter_le (fun q : Int × Int => q.1 != t.1) H
    have h2 := List.countP_mono_left (l := T) (p := fun s => !hasK (H.filter (fun q => q.1 != t.1)) s.1) (q := fun s => !hasK H s.1) (fun s hs q => by
      rw [Bool.not_eq_true'] at q ⊢
      cases c : hasK H s.1 with
      | false => rfl
      | true =>
        obtain ⟨u, u1, u2⟩ := hasK_iff.mp c
        have : hasK (H.filter (fun q => q.1 != t.1)) s.1 = true := hasK_iff.mpr ⟨u, List.mem_filter.mpr ⟨u1, by
          rw [bne_iff_ne]
          exact fun v => t2 (hasK_iff.mpr ⟨s, hs, by omega⟩)⟩, u2⟩
        rw [this] at q; exact q)
    omega
theorem tog_len {H T : List (Int × Int)} : H.length ≤ togC H T := by unfold togC; omega
theorem tog_lt {H T : List (Int × Int)} {t : Int × Int} (ht : t ∈ T) (hn : ¬ hasK H t.1 = true) : H.length < togC H T := by
  unfold togC
  have : 0 < T.countP (fun t => !hasK H t.1) := List.countP_pos_iff.mpr ⟨t, ht, by simpa using hn⟩
  omega
/-- after the first i changes -/
def apN (H : List (Int × Int)) (P : List ftX) (i : Nat) : List (Int × Int) := (P.take i).foldl apC H
theorem apN_succ {H : List (Int × Int)} {P : List ftX} {i : Nat} {x : ftX} (h : P[i]? = some x) : apN H P (i + 1) = apC (apN H P i) x := by
  unfold apN
  rw [take_succ_get P i x h, List.foldl_append]
  rfl
theorem apN_ok {H T : List (Int × Int)} (hH : lOk H) (hT : lOk T) : ∀ i, i ≤ (plL H T).length → lOk (apN H (plL H T) i) ∧ plL (apN H (plL H T) i) T = (plL H T).drop i ∧ togC (apN H (plL H T) i) T ≤ togC H T
  | 0, _ => ⟨hH, rfl, Nat.le_refl _⟩
  | i + 1, hi => by
    have ih := apN_ok hH hT i (by omega)
    obtain ⟨x, hx⟩ : ∃ x, (plL H T)[i]? = some x := ⟨_, List.getElem?_eq_getElem (by omega)⟩
    have hd : (plL H T).drop i = x :: (plL H T).drop (i + 1) := by
      rw [List.drop_eq_getElem_cons (by omega)]
      congr 1
      exact (List.getElem?_eq_some_iff.mp hx).2
    rw [apN_succ hx]
    have e := ih.2.1
    rw [hd] at e
    have s := plL_step ih.1 hT e
    have hm : x ∈ tgC (apN H (plL H T) i) T ∨ x ∈ rmC (apN H (plL H T) i) T := ((plL_ok ih.1 hT).2.1 x).mp (by rw [e]; exact List.mem_cons_self)
    exact ⟨s.1, s.2, Nat.le_trans (tog_step ih.1 hm) ih.2.2⟩
theorem apN_mem {H T : List (Int × Int)} (hH : lOk H) (hT : lOk T) {i : Nat} {x : ftX} (hx : (plL H T)[i]? = some x) : x ∈ tgC (apN H (plL H T) i) T ∨ x ∈ rmC (apN H (plL H T) i) T := by
  have hi := (List.getElem?_eq_some_iff.mp hx).1
  have ih := apN_ok hH hT i (by omega)
  refine ((plL_ok ih.1 hT).2.1 x).mp ?_
  rw [ih.2.1, List.drop_eq_getElem_cons hi, (List.getElem?_eq_some_iff.mp hx).2]
  exact List.mem_cons_self
theorem c_SP_makeChanges {a : Nat} (ha : ft_sh a = some (.inl 4)) (da : a + 3 ≤ 289 ∨ 294 ≤ a) {h : ftH} {H T : List (Int × Int)} (hT : lOk T) (lT : T.length ≤ 60) (hp : plI h (plL H T)) (pH : ft_ps h a) (eH : ft_pl h a = H) (hr : (togC H T : Int) ≤ ft_ln (a + 1)) {lim n : Nat} (hn : n = min lim (plL H T).length) : ft_C k_SP_makeChanges [.inr (.inr 289), .inr (.inr a), .inl (lim : Int)] h (fun r h' => r = some (.inl (n : Int)) ∧ (∀ k, k < a ∨ a + 3 ≤ k → h' k = h k) ∧ ft_ps h' a ∧ ft_pl h' a = apN H (plL H T) n) := by
  have hH : lOk H := by rw [← eH]; exact ft_ps_list pH
  have hHl := pl_len eH pH.1.1
  have l1 := ft_ln_ps ha
  have z1 := pH.1.2
  have hPl : (plL H T).length < 1000 := by
    rw [(plL_ok hH hT).2.2]
    have h8 := tgC_len (H := H) (T := T)
    have h9 := rmC_len (H := H) (T := T)
    omega
  have hPb : (plL H T).length ≤ 140 := by
    rw [(plL_ok hH hT).2.2]
    have h8 := tgC_len (H := H) (T := T)
    have h9 := rmC_len (H := H) (T := T)
    omega
  refine ft_enter (n := 2) rfl (Nat.le_of_ble_eq_true rfl) rfl (b_SP_makeChanges_0 ha (fun n1 e1 => ?_))
  have e2 : n1 = (n : Int) := by rw [e1, hp.1, hn]; omega
  rw [e2]
  have loop : ∀ (m i : Nat) (h1 : ftH), i + m = n → (∀ k, k < a ∨ a + 3 ≤ k → h1 k = h k) → ft_ps h1 a → ft_pl h1 a = apN H (plL H T) i → ft_V k_SP_makeChanges 12 [some (.inr (.inr 289)), some (.inr (.inr a)), none, some (.inl (n : Int)), some (.inl (i : Int))] [] h1 (fun r h' => r = some (.inl (n : Int)) ∧ (∀ k, k < a ∨ a + 3 ≤ k → h' k = h k) ∧ ft_ps h' a ∧ ft_pl h' a = apN H (plL H T) n) := by
    intro m
    induction m with
    | zero =>
      intro i h1 hm f q1 q2
      have e : i = n := by omega
      subst e
      exact b_SP_makeChanges_12 ha ⟨fun _ => ⟨rfl, f, q1, q2⟩, fun c => absurd (by omega) c⟩
    | succ m ih =>
      intro i h1 hm f q1 q2
      have hi : i < (plL H T).length := by omega
      have hx := plI_at hp hi
      rw [← f 293 (by omega), ← f 290 (by omega), ← f 291 (by omega), ← f 292 (by omega)] at hx
      have hok := apN_ok hH hT i (by omega)
      have hmem := apN_mem hH hT hx
      have hsu := apN_succ (H := H) hx
      have hst := plL_step (x := (h1 293 i, h1 290 i, h1 291 i, h1 292 i)) (l := (plL H T).drop (i + 1)) hok.1 hT (by
        rw [hok.2.1, List.drop_eq_getElem_cons hi, (List.getElem?_eq_some_iff.mp hx).2])
      have hlen := pl_len q2 q1.1.1
      have hap : ∀ k v kd r : Int, apC (apN H (plL H T) i) (r, k, kd, v) = if kd = 2 then (apN H (plL H T) i).filter (fun q => q.1 != k) else insK k v (apN H (plL H T) i) := fun _ _ _ _ => rfl
      rw [hap] at hsu
      have hst := hst.1
      rw [hap] at hst
      refine b_SP_makeChanges_12 ha ⟨fun c => absurd c (by omega), fun _ => ⟨⟨by omega, by omega⟩, fun c => ⟨⟨by omega, by omega⟩, ⟨by omega, by omega⟩, _, c_PS_put ha q1, fun h2 w => ?_⟩, fun c => ⟨⟨by omega, by omega⟩, _, c_PS_indexOf ha q1, fun z h2 _ w => ?_⟩⟩⟩
      · obtain ⟨-, w2, w3, w4, -⟩ := w
        rw [Int.toNat_natCast] at c w4
        rw [if_neg c] at hsu hst
        have hin : ft_pl h2 a = insK (h1 290 i) (h1 292 i) (ft_pl h1 a) := by
          apply w4
          rcases hmem with hmem | hmem
          · obtain ⟨t, t1, t2, t3⟩ := tgC_mem.mp hmem
            have tk : h1 290 i = t.1 := congrArg (fun z : ftX => z.2.1) t3
            rw [tk]
            by_cases d : hasK (apN H (plL H T) i) t.1 = true
            · right
              obtain ⟨u, u1, u2⟩ := hasK_iff.mp d
              obtain ⟨j, hj⟩ := List.getElem?_of_mem u1
              have hj2 := (List.getElem?_eq_some_iff.mp hj).1
              have hg := pl_at q2 (i := (j : Int)) (by omega) (by omega)
              rw [Int.toNat_natCast, hj] at hg
              refine ⟨j, by omega, ?_⟩
              have := congrArg Prod.fst (Option.some.inj hg)
              simp only at this
              omega
            · left
              have h7 := tog_lt t1 d
              have h8 := hok.2.2
              omega
          · obtain ⟨t, t1, t2, t3⟩ := rmC_mem.mp hmem
            exact absurd (congrArg (fun z : ftX => z.2.2.1) t3) c
        rw [q2, ← hsu] at hin
        rw [← hsu] at hst
        rw [inc1 (by omega)]
        exact ih (i + 1) h2 (by omega) (fun k hk => by rw [w2 k hk, f k hk]) (ft_ps_of w3 (by rw [hin]; exact hst)) hin
      · obtain ⟨rfl, w⟩ := w
        rw [Int.toNat_natCast] at c w
        rw [if_pos c] at hsu hst
        rw [← hsu] at hst
        rcases idx_has q1 q2 w with ⟨r1, r2⟩ | ⟨p, r1, r2, r3, r4⟩
        · exfalso
          rcases hmem with hmem | hmem
          · obtain ⟨t, t1, t2, t3⟩ := tgC_mem.mp hmem
            have h7 : h2 291 i = (if hasK (apN H (plL H T) i) t.1 = true then 1 else 0) := congrArg (fun z : ftX => z.2.2.1) t3
            rw [c] at h7
            split at h7 <;> omega
          · obtain ⟨t, t1, t2, t3⟩ := rmC_mem.mp hmem
            have h7 : h2 290 i = t.1 := congrArg (fun z : ftX => z.2.1) t3
            exact r2 (hasK_iff.mpr ⟨t, t1, h7.symm⟩)
        · have hz := injI r1
          subst hz
          refine ⟨_, c_PS_removeAt ha q1 (by omega), fun h3 w => ?_⟩
          obtain ⟨-, w2, w3, w4⟩ := w
          rw [q2, erase_filter hok.1.2 r3 rfl] at w4
          have w5 : ft_pl h3 a = apN H (plL H T) (i + 1) := by rw [w4, hsu]
          rw [inc1 (by omega)]
          have h8 := q1.1
          exact ih (i + 1) h3 (by omega) (fun k hk => by rw [w2 k hk, f k hk]) (ft_ps_of ⟨by omega, by omega⟩ (by rw [w5]; exact hst)) w5
  exact loop n 0 h (by omega) (fun k _ => rfl) pH eH
