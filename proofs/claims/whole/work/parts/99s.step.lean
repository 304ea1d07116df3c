/-! TOKENS: the class's step -/
def taF (h h' : ftH) : Prop := (∀ c, c ≠ 113 → h' c = h c) ∧ ∀ j, j ≤ 1 ∨ 6 ≤ j → h' 113 j = h 113 j
theorem taF_tr {h g k : ftH} (a : taF h g) (b : taF g k) : taF h k := ⟨fun c hc => by rw [b.1 c hc, a.1 c hc], fun j hj => by rw [b.2 j hj, a.2 j hj]⟩
theorem taF_rf (h : ftH) : taF h h := ⟨fun _ _ => rfl, fun _ _ => rfl⟩
theorem taF_hs {h h' : ftH} {j : Nat} {z : Int} (hj : 2 ≤ j ∧ j ≤ 5) (e : h' = ft_hs h 113 j z) : taF h h' := ⟨fun c hc => by rw [e, ft_hs_ne c hc], fun i hi => by rw [e, ft_hs_j (by omega)]⟩
theorem taF_tp {h h' : ftH} {T : List Int} (f : taF h h') (hT : tpC h T) : tpC h' T := ⟨by rw [f.2 1 (by omega)]; exact hT.1, hT.2.1, fun j x hx => by rw [f.1 114 (by omega)]; exact hT.2.2 j x hx⟩
/-- the current token is that whose reading began at p -/
def tcI (h : ftH) (T : List Int) (p : Nat) : Prop := h 113 2 = (tkS T p : Int) ∧ h 113 3 = (tkE T p : Int) ∧ h 113 4 = tkK T p ∧ (tkK T p = 2 → h 113 5 = tkN T p)
theorem wdH_wdT {h : ftH} {T : List Int} (hT : tpC h T) {a b : Nat} (hb : b ≤ T.length) (hl : ∀ j, a ≤ j → j < b → isLt (tb T j) = true) : wdH h a b = wdT T a b := by
  unfold wdH wdT
  refine List.map_congr_left (fun j hj => ?_)
  rw [List.mem_range] at hj
  have h1 := isLt_iff.mp (hl (a + j) (by omega) (by omega))
  rcases tb_cls hT (show a + j < T.length by omega) with q | q
  · exact q.1
  · omega
theorem v_Ta_sow0 {h : ftH} {T : List Int} (hT : tpC h T) {a : Nat} (ha : h 113 2 = (a : Int)) (hal : a ≤ T.length) {R : Option ftV → ftH → Prop} (hk : ∀ h', taF h h' → h' 113 2 = (a : Int) → h' 113 3 = (sp isLt T a : Int) → h' 113 4 = wkI (wdT T a (sp isLt T a)) → h' 113 5 = h 113 5 → R none h') : ∀ (m q : Nat) (g : ftH), q + m = T.length → a ≤ q → g 113 3 = (q : Int) → taF h g → (∀ j, j ≠ 3 → g 113 j = h 113 j) → sp isLt T q = sp isLt T a → ft_V k_Ta_stepOverWord 0 [some (.inr (.inr 113))] [] g R := by
  have h22 := hT.2.1
  have fin : ∀ (q : Nat) (g : ftH), q ≤ T.length → a ≤ q → g 113 3 = (q : Int) → taF h g → (∀ j, j ≠ 3 → g 113 j = h 113 j) → q = sp isLt T a → ft_V k_Ta_stepOverWord 39 [some (.inr (.inr 113))] [] g R := by
    intro q g hq haq e3 f f3 hsp
    refine v_Ta_sow39 (a := a) (b := q) (by rw [f3 2 (by omega)]; exact ha) e3 ⟨haq, by omega⟩ (hk _ (taF_tr f (taF_hs (by omega) rfl)) (by rw [ft_hs_j (by omega), f3 2 (by omega)]; exact ha) (by rw [ft_hs_j (by omega), e3, hsp]) ?_ (by rw [ft_hs_j (by omega), f3 5 (by omega)]))
    rw [ft_hs_same, ← hsp, wdH_wdT (taF_tp f hT) hq (fun j j1 j2 => sp_in j1 (by rw [← hsp]; exact j2))]
  intro m
  induction m with
  | zero =>
    intro q g hm haq e3 f f3 hs
    have hT' := taF_tp f hT
    refine fv_aload_n (n := 0) (a := 113) (ft_d o_Ta_stepOverWord 0 rfl) rfl rfl (fv_getI (ft_d o_Ta_stepOverWord 1 rfl) rfl fl_Ta_19 sh_113 rfl (fv_aload_n (n := 0) (a := 113) (ft_d o_Ta_stepOverWord 2 rfl) rfl rfl (fv_getI (ft_d o_Ta_stepOverWord 3 rfl) rfl fl_Ta_15 sh_113 rfl (fv_icmp_ge (tgt := 39) (ft_d o_Ta_stepOverWord 4 rfl) rfl rfl (fun _ => ?_) (fun c => absurd (by rw [hT'.1, e3]; omega) c)))))
    refine fin q g (by omega) haq e3 f f3 ?_
    rw [← hs, sp_step f_lt, tb_end (by omega), f_lt]
    rfl
  | succ m ih =>
    intro q g hm haq e3 f f3 hs
    have hT' := taF_tp f hT
    have hql : q < T.length := by omega
    refine fv_aload_n (n := 0) (a := 113) (ft_d o_Ta_stepOverWord 0 rfl) rfl rfl (fv_getI (ft_d o_Ta_stepOverWord 1 rfl) rfl fl_Ta_19 sh_113 rfl (fv_aload_n (n := 0) (a := 113) (ft_d o_Ta_stepOverWord 2 rfl) rfl rfl (fv_getI (ft_d o_Ta_stepOverWord 3 rfl) rfl fl_Ta_15 sh_113 rfl (fv_icmp_ge (tgt := 39) (ft_d o_Ta_stepOverWord 4 rfl) rfl rfl (fun c => absurd c (by rw [hT'.1, e3]; omega)) (fun _ => ?_)))))
    refine fv_aload_n (n := 0) (a := 113) (ft_d o_Ta_stepOverWord 5 rfl) rfl rfl (fv_getR (b := 114) (ft_d o_Ta_stepOverWord 6 rfl) rfl fl_Ta_9 sh_113 rfl ly_113_0 (fv_aload_n (n := 0) (a := 113) (ft_d o_Ta_stepOverWord 7 rfl) rfl rfl (fv_getI (ft_d o_Ta_stepOverWord 8 rfl) rfl fl_Ta_19 sh_113 rfl ?_)))
    rw [e3]
    refine fv_bald (ft_d o_Ta_stepOverWord 9 rfl) rfl sh_114 ⟨by omega, by omega⟩ ?_
    rw [Int.toNat_natCast]
    refine fv_callif (K' := k_Ta_isLetter) (st := []) (z := (if 97 ≤ g 114 q ∧ g 114 q ≤ 122 then 1 else 0)) (Or.inr rfl) rfl (ft_mm (pre := [.inl (g 114 q)]) rfl) (ft_rnS (K' := k_Ta_isLetter) (As := [.inl (g 114 q)]) (ft_d o_Ta_stepOverWord 10 rfl) ml_Ta_97 lz_Ta_isLetter rfl lw_Ta_isLetter ⟨rfl, rfl, Nat.le_of_ble_eq_true rfl, Nat.le_of_ble_eq_true rfl⟩ rfl rfl (Nat.le_of_ble_eq_true rfl) c_Ta_isLetter) ?_
    have hb := tb_cls hT' hql
    refine fv_if_eq (tgt := 39) (ft_d o_Ta_stepOverWord 11 rfl) rfl rfl (fun c => ?_) (fun c => ?_)
    · have c := ft_if0.mp c
      refine fin q g (by omega) haq e3 f f3 ?_
      have hn : ¬ isLt (tb T q) = true := fun z => by
        rw [isLt_iff] at z
        rcases hb with q | q
        · rw [q.1] at c; exact c z
        · omega
      rw [← hs, sp_step f_lt, if_neg hn]
    · have c := ft_if1.mp c
      have hy : isLt (tb T q) = true := by
        rw [isLt_iff]
        rcases hb with q | q
        · rw [q.1] at c; exact c
        · omega
      refine fv_aload_n (n := 0) (a := 113) (ft_d o_Ta_stepOverWord 12 rfl) rfl rfl (fv_dup (ft_d o_Ta_stepOverWord 13 rfl) rfl rfl (fv_getI (ft_d o_Ta_stepOverWord 14 rfl) rfl fl_Ta_19 sh_113 rfl (fv_iconst (n := 1) (ft_d o_Ta_stepOverWord 15 rfl) rfl rfl (fv_iadd (ft_d o_Ta_stepOverWord 16 rfl) rfl (fv_putI (ft_d o_Ta_stepOverWord 17 rfl) rfl fl_Ta_19 rfl rfl sh_113 rfl (fv_goto (pc' := 0) (ft_d o_Ta_stepOverWord 18 rfl) rfl ?_))))))
      rw [e3, inc1 (by omega)]
      refine ih (q + 1) _ (by omega) (by omega) ft_hs_same (taF_tr f (taF_hs (by omega) rfl)) (fun j hj => by rw [ft_hs_j hj, f3 j hj]) ?_
      rw [← hs, sp_step f_lt T q, if_pos hy]
theorem c_Ta_stepOverWord {h : ftH} {T : List Int} (hT : tpC h T) {a : Nat} (ha : h 113 2 = (a : Int)) (h3 : h 113 3 = (a : Int)) (hal : a ≤ T.length) : ft_C k_Ta_stepOverWord [.inr (.inr 113)] h (fun r h' => r = none ∧ taF h h' ∧ h' 113 2 = (a : Int) ∧ h' 113 3 = (sp isLt T a : Int) ∧ h' 113 4 = wkI (wdT T a (sp isLt T a)) ∧ h' 113 5 = h 113 5) :=
  ft_enter (n := 0) rfl (Nat.le_of_ble_eq_true rfl) rfl (v_Ta_sow0 hT ha hal (fun h' a b c d e => ⟨rfl, a, b, c, d, e⟩) (T.length - a) a h (by omega) (Nat.le_refl a) h3 (taF_rf h) (fun _ _ => rfl) rfl)
theorem v_Ta_son5 {h : ftH} {T : List Int} (hT : tpC h T) {a : Nat} (ha : h 113 2 = (a : Int)) (hal : a ≤ T.length) {R : Option ftV → ftH → Prop} (hk : ∀ h', taF h h' → h' 113 2 = (a : Int) → h' 113 3 = (sp isDg T a : Int) → h' 113 4 = (if sp isDg T a ≤ a + 3 then 2 else 1) → h' 113 5 = dgN T a (min 3 (sp isDg T a - a)) → R none h') : ∀ (m q : Nat) (g : ftH), q + m = T.length → a ≤ q → g 113 3 = (q : Int) → g 113 2 = (a : Int) → taF h g → g 113 5 = dgN T a (min 3 (q - a)) → (∀ j, a ≤ j → j < q → isDg (tb T j) = true) → sp isDg T q = sp isDg T a → ft_V k_Ta_stepOverNumber 5 [some (.inr (.inr 113))] [] g R := by
  have h22 := hT.2.1
  have fin : ∀ (q : Nat) (g : ftH), q ≤ T.length → a ≤ q → g 113 3 = (q : Int) → g 113 2 = (a : Int) → taF h g → g 113 5 = dgN T a (min 3 (q - a)) → q = sp isDg T a → ((3 < ft_sub (g 113 3) (g 113 2) → (∀ h1 : ftH, h1 = ft_hs g 113 4 1 → R none h1)) ∧ (¬ (3 < ft_sub (g 113 3) (g 113 2)) → (∀ h2 : ftH, h2 = ft_hs g 113 4 2 → R none h2))) := by
    intro q g hq haq e3 e2 f e5 hsp
    rw [e3, e2, ft_sub_eq ⟨by omega, by omega⟩]
    refine ⟨fun c h1 k1 => ?_, fun c h1 k1 => ?_⟩
    · refine hk h1 (taF_tr f (taF_hs (by omega) k1)) (by rw [k1, ft_hs_j (by omega), e2]) (by rw [k1, ft_hs_j (by omega), e3, hsp]) (by rw [k1, ft_hs_same, if_neg (by omega)]) (by rw [k1, ft_hs_j (by omega), e5, hsp])
    · refine hk h1 (taF_tr f (taF_hs (by omega) k1)) (by rw [k1, ft_hs_j (by omega), e2]) (by rw [k1, ft_hs_j (by omega), e3, hsp]) (by rw [k1, ft_hs_same, if_pos (by omega)]) (by rw [k1, ft_hs_j (by omega), e5, hsp])
  intro m
  induction m with
  | zero =>
    intro q g hm haq e3 e2 f e5 hd hs
    have hT' := taF_tp f hT
    refine b_Ta_stepOverNumber_5 ⟨fun _ => fin q g (by omega) haq e3 e2 f e5 ?_, fun c => absurd (by rw [hT'.1, e3]; omega) c⟩
    rw [← hs, sp_step f_dg, tb_end (by omega), f_dg]
    rfl
  | succ m ih =>
    intro q g hm haq e3 e2 f e5 hd hs
    have hT' := taF_tp f hT
    have hql : q < T.length := by omega
    have hb := tb_cls hT' hql
    refine b_Ta_stepOverNumber_5 ⟨fun c => absurd c (by rw [hT'.1, e3]; omega), fun _ => ⟨⟨by rw [e3]; omega, by rw [e3]; omega⟩, fun c => fin q g (by omega) haq e3 e2 f e5 ?_, fun c => ?_⟩⟩
    · rw [e3, Int.toNat_natCast] at c
      have hn : ¬ isDg (tb T q) = true := fun z => by
        rw [isDg_iff] at z
        rcases hb with q | q
        · rw [q.1] at c; exact c z
        · omega
      rw [← hs, sp_step f_dg, if_neg hn]
    · rw [e3, Int.toNat_natCast] at c
      have hg : g 114 q = tb T q := by
        rcases hb with q | q
        · exact q.1
        · omega
      have hy : isDg (tb T q) = true := by
        rw [isDg_iff, ← hg]
        exact c
      have hd' : ∀ j, a ≤ j → j < q + 1 → isDg (tb T j) = true := fun j j1 j2 => by
        by_cases e : j = q
        · rw [e]; exact hy
        · exact hd j j1 (by omega)
      have hs' : sp isDg T (q + 1) = sp isDg T a := by rw [← hs, sp_step f_dg T q, if_pos hy]
      rw [e3, e2, ft_sub_eq ⟨by omega, by omega⟩, inc1 (by omega)]
      refine ⟨fun c3 h1 k1 => ?_, fun c3 => ⟨⟨by omega, by omega⟩, fun h1 k1 h2 k2 => ?_⟩⟩
      · refine ih (q + 1) h1 (by omega) (by omega) (by rw [k1, ft_hs_same]) (by rw [k1, ft_hs_j (by omega), e2]) (taF_tr f (taF_hs (by omega) k1)) (by rw [k1, ft_hs_j (by omega), e5, show min 3 (q - a) = 3 by omega, show min 3 (q + 1 - a) = 3 by omega]) hd' hs'
      · have hr := dgN_rng (T := T) (a := a) (q - a) (by omega) (fun j hj => hd (a + j) (by omega) (by omega))
        have h3 : (10 : Int) ^ (q - a) ≤ 100 := by
          have : ∀ k : Nat, k ≤ 2 → (10 : Int) ^ k ≤ 100 := by decide
          exact this _ (by omega)
        have hdv := isDg_iff.mp hy
        rw [e5, show min 3 (q - a) = q - a by omega, Int.toNat_natCast, hg, ft_mul_eq ⟨by omega, by omega⟩, ft_add_eq ⟨by omega, by omega⟩, ft_sub_eq ⟨by omega, by omega⟩] at k1
        rw [k1, ft_hs_j (by omega), e3, inc1 (by omega), ← k1] at k2
        refine ih (q + 1) h2 (by omega) (by omega) (by rw [k2, ft_hs_same]) (by rw [k2, ft_hs_j (by omega), k1, ft_hs_j (by omega), e2]) (taF_tr f (taF_tr (taF_hs (by omega) k1) (taF_hs (by omega) k2))) ?_ hd' hs'
        rw [k2, ft_hs_j (by omega), k1, ft_hs_same, show min 3 (q + 1 - a) = (q - a) + 1 by omega, dgN, show a + (q - a) = q by omega]
        omega
theorem c_Ta_stepOverNumber {h : ftH} {T : List Int} (hT : tpC h T) {a : Nat} (ha : h 113 2 = (a : Int)) (h3 : h 113 3 = (a : Int)) (hal : a ≤ T.length) : ft_C k_Ta_stepOverNumber [.inr (.inr 113)] h (fun r h' => r = none ∧ taF h h' ∧ h' 113 2 = (a : Int) ∧ h' 113 3 = (sp isDg T a : Int) ∧ h' 113 4 = (if sp isDg T a ≤ a + 3 then 2 else 1) ∧ h' 113 5 = dgN T a (min 3 (sp isDg T a - a))) := by
  refine ft_enter (n := 0) rfl (Nat.le_of_ble_eq_true rfl) rfl (b_Ta_stepOverNumber_0 (fun h1 k1 => ?_))
  have f1 := taF_hs (h := h) (h' := h1) (j := 5) (by omega) k1
  refine v_Ta_son5 (h := h1) (taF_tp f1 hT) (a := a) (by rw [k1, ft_hs_j (by omega)]; exact ha) hal (fun h' a b c d e => ⟨rfl, taF_tr f1 a, b, c, d, e⟩) (T.length - a) a h1 (by omega) (Nat.le_refl a) (by rw [k1, ft_hs_j (by omega)]; exact h3) (by rw [k1, ft_hs_j (by omega)]; exact ha) (taF_rf h1) (by rw [k1, ft_hs_same, Nat.sub_self]; rfl) (fun j j1 j2 => by omega) rfl
theorem c_Ta_step {h : ftH} {T : List Int} (hT : tpC h T) {p : Nat} (h3 : h 113 3 = (p : Int)) (hp : p ≤ T.length) : ft_C k_Ta_step [.inr (.inr 113)] h (fun r h' => r = none ∧ taF h h' ∧ tcI h' T p) := by
  have h22 := hT.2.1
  have fin : ∀ (q : Nat) (g : ftH), q ≤ T.length → g 113 3 = (q : Int) → taF h g → q = tkS T p → ft_V k_Ta_step 52 [some (.inr (.inr 113)), none] [] g (fun r h' => r = none ∧ taF h h' ∧ tcI h' T p) := by
    intro q g hq e3 f hs
    refine b_Ta_step_52 (fun h1 k1 => ?_)
    have f1 : taF h h1 := taF_tr f (taF_hs (by omega) k1)
    have hT1 := taF_tp f1 hT
    rw [e3] at k1
    have e3' : h1 113 3 = (q : Int) := by rw [k1, ft_hs_j (by omega)]; exact e3
    have e2' : h1 113 2 = (q : Int) := by rw [k1, ft_hs_same]
    rw [hT1.1, e3', Int.toNat_natCast]
    refine ⟨fun c => ⟨⟨by omega, by omega⟩, fun cl => ⟨⟨by omega, by omega⟩, fun cd => ⟨⟨by omega, by omega⟩, fun n5 e5 => ?_⟩, fun cd => ⟨_, c_Ta_stepOverNumber hT1 e2' e3' hq, fun h2 w => ?_⟩⟩, fun cl => ⟨_, c_Ta_stepOverWord hT1 e2' e3' hq, fun h2 w => ?_⟩⟩, fun c h4 k4 => ?_⟩
    · have hb := tb_cls hT1 (show q < T.length by omega)
      have nl : ¬ isLt (tb T (tkS T p)) = true := fun z => by
        rw [isLt_iff, ← hs] at z
        rcases hb with q | q
        · rw [q.1] at cl; exact cl z
        · omega
      have nd : ¬ isDg (tb T (tkS T p)) = true := fun z => by
        rw [isDg_iff, ← hs] at z
        rcases hb with q | q
        · rw [q.1] at cd; exact cd z
        · omega
      have eE : tkE T p = q + 1 := by unfold tkE; rw [if_neg (by omega), if_neg nl, if_neg nd, ← hs]
      have go : ∀ (z : Int), tkK T p = z → z ≠ 2 → ft_V k_Ta_step 157 [some (.inr (.inr 113)), none] [.inl z, .inr (.inr 113)] h1 (fun r h' => r = none ∧ taF h h' ∧ tcI h' T p) := by
        intro z ez z2
        refine b_Ta_step_157 (fun h2 k2 h3 k3 => ?_)
        rw [k2, ft_hs_j (by omega), e3', inc1 (by omega), ← k2] at k3
        refine ⟨rfl, taF_tr f1 (taF_tr (taF_hs (by omega) k2) (taF_hs (by omega) k3)), by rw [k3, ft_hs_j (by omega), k2, ft_hs_j (by omega), e2', hs], by rw [k3, ft_hs_same, eE], by rw [k3, ft_hs_j (by omega), k2, ft_hs_same, ez], fun q => absurd (ez.symm.trans q) z2⟩
      have kk : ∀ z : Int, (z = 59 ∨ z = 46 ∨ z = 47) → n5 = z → ft_V k_Ta_step 152 [some (.inr (.inr 113)), some (.inl n5)] [.inr (.inr 113)] h1 (fun r h' => r = none ∧ taF h h' ∧ tcI h' T p) := by
        intro z hz hn
        have ht : tb T q = n5 := by
          rcases hb with q | q
          · rw [e5, q.1]
          · omega
        refine b_Ta_step_152 (go n5 ?_ (by omega))
        unfold tkK
        rw [if_neg (by omega), if_neg nl, if_neg nd, ← hs, ht, if_pos (by omega)]
      refine ⟨fun c1 => kk 59 (by omega) c1, fun c1 => ⟨fun c2 => kk 46 (by omega) c2, fun c2 => ⟨fun c3 => go 1 ?_ (by omega), fun c3 => kk 47 (by omega) c3⟩⟩⟩
      unfold tkK
      rw [if_neg (by omega), if_neg nl, if_neg nd, ← hs, if_neg ?_]
      rintro (z | z | z) <;> rcases hb with q | q <;> omega
    · have hb := tb_cls hT1 (show q < T.length by omega)
      have hg : h1 114 q = tb T q := by
        rcases hb with q | q
        · exact q.1
        · omega
      rw [hg] at cd cl
      have nl : ¬ isLt (tb T (tkS T p)) = true := fun z => by
        rw [isLt_iff, ← hs] at z
        exact cl z
      have yd : isDg (tb T (tkS T p)) = true := by
        rw [isDg_iff, ← hs]
        exact cd
      have eE : tkE T p = sp isDg T q := by unfold tkE; rw [if_neg (by omega), if_neg nl, if_pos yd, ← hs]
      obtain ⟨-, w1, w2, w3, w4, w5⟩ := w
      refine ⟨rfl, taF_tr f1 w1, by rw [w2, hs], by rw [w3, eE], ?_, fun _ => ?_⟩
      · have eK : tkK T p = if sp isDg T q ≤ q + 3 then 2 else 1 := by
          unfold tkK
          rw [if_neg (by omega), if_neg nl, if_pos yd, eE, ← hs]
        rw [w4, eK]
      · rw [w5]
        unfold tkN
        rw [eE, ← hs]
    · have hb := tb_cls hT1 (show q < T.length by omega)
      have hg : h1 114 q = tb T q := by
        rcases hb with q | q
        · exact q.1
        · omega
      rw [hg] at cl
      have yl : isLt (tb T (tkS T p)) = true := by
        rw [isLt_iff, ← hs]
        exact cl
      have eE : tkE T p = sp isLt T q := by unfold tkE; rw [if_neg (by omega), if_pos yl, ← hs]
      obtain ⟨-, w1, w2, w3, w4, w5⟩ := w
      have eK : tkK T p = wkI (wdT T q (sp isLt T q)) := by
        unfold tkK
        rw [if_neg (by omega), if_pos yl, eE, ← hs]
      refine ⟨rfl, taF_tr f1 w1, by rw [w2, hs], by rw [w3, eE], by rw [w4, eK], fun z => ?_⟩
      have := wkI_rng (wdT T q (sp isLt T q))
      omega
    · have eE : tkE T p = q := by unfold tkE; rw [if_pos (by omega), ← hs]
      have eK : tkK T p = 0 := by unfold tkK; rw [if_pos (by omega)]
      refine ⟨rfl, taF_tr f1 (taF_hs (by omega) k4), by rw [k4, ft_hs_j (by omega), e2', hs], by rw [k4, ft_hs_j (by omega), e3', eE], by rw [k4, ft_hs_same, eK], fun z => by omega⟩
  have loop : ∀ (m q : Nat) (g : ftH), q + m = T.length → g 113 3 = (q : Int) → taF h g → sp isSp T q = tkS T p → ft_V k_Ta_step 0 [some (.inr (.inr 113)), none] [] g (fun r h' => r = none ∧ taF h h' ∧ tcI h' T p) := by
    intro m
    induction m with
    | zero =>
      intro q g hm e3 f hs
      have hT' := taF_tp f hT
      refine b_Ta_step_0 ⟨fun _ => fin q g (by omega) e3 f ?_, fun c => absurd (by rw [hT'.1, e3]; omega) c⟩
      rw [← hs, sp_step f_sp, tb_end (by omega), f_sp]
      rfl
    | succ m ih =>
      intro q g hm e3 f hs
      have hT' := taF_tp f hT
      have hql : q < T.length := by omega
      have hb := tb_cls hT' hql
      have nx : isSp (tb T q) = true → ft_V k_Ta_step 39 [some (.inr (.inr 113)), none] [] g (fun r h' => r = none ∧ taF h h' ∧ tcI h' T p) := fun y => by
        refine b_Ta_step_39 (fun h1 k1 => ?_)
        rw [e3, inc1 (by omega)] at k1
        exact ih (q + 1) h1 (by omega) (by rw [k1, ft_hs_same]) (taF_tr f (taF_hs (by omega) k1)) (by rw [← hs, sp_step f_sp T q, if_pos y])
      refine b_Ta_step_0 ⟨fun c => absurd c (by rw [hT'.1, e3]; omega), fun _ => ?_⟩
      rw [e3, Int.toNat_natCast]
      refine ⟨⟨by omega, by omega⟩, fun c => nx ?_, fun c => ⟨⟨by omega, by omega⟩, fun d => fin q g (by omega) e3 f ?_, fun d => nx ?_⟩⟩
      · rw [isSp_iff]
        rcases hb with q | q <;> omega
      · have hn : ¬ isSp (tb T q) = true := fun z => by
          rw [isSp_iff] at z
          rcases hb with q | q <;> omega
        rw [← hs, sp_step f_sp, if_neg hn]
      · rw [isSp_iff]
        rcases hb with q | q <;> omega
  exact ft_enter (n := 1) rfl (Nat.le_of_ble_eq_true rfl) rfl (loop (T.length - p) p h (by omega) h3 (taF_rf h) rfl)
theorem c_Ta_take {h : ftH} {T : List Int} (hT : tpC h T) {p : Nat} (hp : p ≤ T.length) (hc : tcI h T p) {k : Int} : ft_C k_Ta_take [.inr (.inr 113), .inl k] h (fun r h' => (tkK T p = k ∧ r = some (.inl 1) ∧ taF h h' ∧ tcI h' T (tkE T p)) ∨ (tkK T p ≠ k ∧ r = some (.inl 0) ∧ h' = h)) := by
  have hE := tkE_le hp
  refine ft_enter (n := 0) rfl (Nat.le_of_ble_eq_true rfl) rfl (b_Ta_take_0 ⟨fun c => ⟨_, c_Ta_step hT hc.2.1 hE.2, fun h1 w => ?_⟩, fun c => ?_⟩)
  · rw [hc.2.2.1] at c
    exact Or.inl ⟨c, rfl, w.2.1, w.2.2⟩
  · rw [hc.2.2.1] at c
    exact Or.inr ⟨c, rfl, rfl⟩
