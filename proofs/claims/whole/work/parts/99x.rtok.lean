/-! TOKENS: the reference's goesOn -/
theorem c_Mo_goesOn {h : ftH} (hw : wdsI h) {T : List Int} (hT : tpM h T) {p : Nat} (h3 : h 309 36 = (p : Int)) (hp : p ≤ T.length) : ft_C k_Mo_goesOn [.inr (.inr 309)] h (fun r h' => r = none ∧ rgF h h' ∧ tmI h' T p) := by
  have h22 := hT.2.1
  -- a number
  have num : ∀ (a : Nat), a = tkS T p → a < T.length → ¬ isLt (tb T a) = true → isDg (tb T a) = true → ∀ (m q : Nat) (g : ftH), q + m = T.length → a ≤ q → g 309 36 = (q : Int) → g 309 38 = (a : Int) → rgF h g → g 309 41 = dgN T a (min 3 (q - a)) → (∀ j, a ≤ j → j < q → isDg (tb T j) = true) → sp isDg T q = sp isDg T a → ft_V k_Mo_goesOn 162 [some (.inr (.inr 309)), none, none] [] g (fun r h' => r = none ∧ rgF h h' ∧ tmI h' T p) := by
    intro a hs hal nl yd
    have eE : tkE T p = sp isDg T a := by unfold tkE; rw [← hs, if_neg (by omega), if_neg nl, if_pos yd]
    have eK : tkK T p = if sp isDg T a ≤ a + 3 then 2 else 1 := by unfold tkK; rw [eE, ← hs, if_neg (by omega), if_neg nl, if_pos yd]
    have eN : tkN T p = dgN T a (min 3 (sp isDg T a - a)) := by unfold tkN; rw [eE, ← hs]
    have fin : ∀ (q : Nat) (g : ftH), q ≤ T.length → a ≤ q → g 309 36 = (q : Int) → g 309 38 = (a : Int) → rgF h g → g 309 41 = dgN T a (min 3 (q - a)) → q = sp isDg T a → ((ft_sub (g 309 36) (g 309 38) ≤ 3 → ft_V k_Mo_goesOn 243 [none, none, none] [.inl 2, .inr (.inr 309)] g (fun r h' => r = none ∧ rgF h h' ∧ tmI h' T p)) ∧ (¬ (ft_sub (g 309 36) (g 309 38) ≤ 3) → ft_V k_Mo_goesOn 243 [none, none, none] [.inl 4, .inr (.inr 309)] g (fun r h' => r = none ∧ rgF h h' ∧ tmI h' T p))) := by
      intro q g hq haq e3 e2 f e5 hsp
      rw [e3, e2, ft_sub_eq ⟨by omega, by omega⟩]
      refine ⟨fun c => b_Mo_goesOn_243 (fun h1 k1 => ?_), fun c => b_Mo_goesOn_243 (fun h1 k1 => ?_)⟩
      · refine ⟨rfl, rgF_tr f (rgF_hs (by omega) k1), by rw [k1, ft_hs_j (by omega), e2, hs], by rw [k1, ft_hs_j (by omega), e3, eE, hsp], ?_⟩
        rw [eK, if_pos (by omega)]
        exact Or.inr (Or.inr (Or.inl ⟨rfl, by rw [k1, ft_hs_same], by rw [k1, ft_hs_j (by omega), e5, eN, hsp]⟩))
      · refine ⟨rfl, rgF_tr f (rgF_hs (by omega) k1), by rw [k1, ft_hs_j (by omega), e2, hs], by rw [k1, ft_hs_j (by omega), e3, eE, hsp], ?_⟩
        rw [eK, if_neg (by omega)]
        exact Or.inr (Or.inl ⟨rfl, by rw [k1, ft_hs_same]⟩)
    intro m
    induction m with
    | zero =>
      intro q g hm haq e3 e2 f e5 hd hsp
      have hT' := rgF_tp f hT
      refine b_Mo_goesOn_162 ⟨⟨by omega, by rw [hT'.1]; omega⟩, fun c => fin q g (by omega) haq e3 e2 f e5 ?_, fun c => ?_⟩
      · rw [← hsp, sp_step f_dg, tb_end (by omega), f_dg]
        rfl
      · rw [here_tb hT' e3, tb_end (by omega)] at c
        omega
    | succ m ih =>
      intro q g hm haq e3 e2 f e5 hd hsp
      have hT' := rgF_tp f hT
      refine b_Mo_goesOn_162 ⟨⟨by omega, by rw [hT'.1]; omega⟩, ?_⟩
      rw [here_tb hT' e3]
      refine ⟨fun c => fin q g (by omega) haq e3 e2 f e5 ?_, fun c => ?_⟩
      · rw [← hsp, sp_step f_dg, if_neg (fun z => c (isDg_iff.mp z))]
      · have hy : isDg (tb T q) = true := isDg_iff.mpr c
        have hd' : ∀ j, a ≤ j → j < q + 1 → isDg (tb T j) = true := fun j j1 j2 => by
          by_cases e : j = q
          · rw [e]; exact hy
          · exact hd j j1 (by omega)
        have hs' : sp isDg T (q + 1) = sp isDg T a := by rw [← hsp, sp_step f_dg T q, if_pos hy]
        have nx : ∀ g1 : ftH, rgF h g1 → g1 309 36 = (q : Int) → g1 309 38 = (a : Int) → g1 309 41 = dgN T a (min 3 (q + 1 - a)) → ft_V k_Mo_goesOn 211 [some (.inr (.inr 309)), none, none] [] g1 (fun r h' => r = none ∧ rgF h h' ∧ tmI h' T p) := by
          intro g1 f1 e1 e2' e5'
          refine b_Mo_goesOn_211 (fun h2 k2 => ?_)
          rw [e1, inc1 (by omega)] at k2
          exact ih (q + 1) h2 (by omega) (by omega) (by rw [k2, ft_hs_same]) (by rw [k2, ft_hs_j (by omega), e2']) (rgF_tr f1 (rgF_hs (by omega) k2)) (by rw [k2, ft_hs_j (by omega), e5']) hd' hs'
        rw [e3, e2, ft_sub_eq ⟨by omega, by omega⟩]
        refine ⟨fun c3 => nx g f e3 e2 (by rw [e5, show min 3 (q - a) = 3 by omega, show min 3 (q + 1 - a) = 3 by omega]), fun c3 => ⟨⟨by omega, by rw [hT'.1]; omega⟩, fun h1 k1 => ?_⟩⟩
        have hr := dgN_rng (T := T) (a := a) (q - a) (by omega) (fun j hj => hd (a + j) (by omega) (by omega))
        have h3 : (10 : Int) ^ (q - a) ≤ 100 := by
          have : ∀ k : Nat, k ≤ 2 → (10 : Int) ^ k ≤ 100 := by decide
          exact this _ (by omega)
        rw [e5, show min 3 (q - a) = q - a by omega, ft_mul_eq ⟨by omega, by omega⟩, ft_add_eq ⟨by omega, by omega⟩, ft_sub_eq ⟨by omega, by omega⟩] at k1
        refine nx h1 (rgF_tr f (rgF_hs (by omega) k1)) (by rw [k1, ft_hs_j (by omega), e3]) (by rw [k1, ft_hs_j (by omega), e2]) ?_
        rw [k1, ft_hs_same, show min 3 (q + 1 - a) = (q - a) + 1 by omega, dgN, show a + (q - a) = q by omega]
  -- a word's kind
  have wrd : ∀ (a b : Nat), a = tkS T p → b = tkE T p → a ≤ b ∧ b ≤ T.length → (∀ j, a ≤ j → j < b → isLt (tb T j) = true) → tkK T p = wkI (wdT T a b) → ∀ (m w : Nat) (g : ftH), w + m = 5 → g 309 36 = (b : Int) → g 309 38 = (a : Int) → rgF h g → ((∃ i, i < w ∧ wdT T a b = txt i ∧ g 309 37 = 1 ∧ g 309 39 = (i : Int)) ∨ ((∀ i, i < w → ¬ wdT T a b = txt i) ∧ g 309 37 = 4)) → ft_V k_Mo_goesOn 108 [some (.inr (.inr 309)), none, some (.inl (w : Int))] [] g (fun r h' => r = none ∧ rgF h h' ∧ tmI h' T p) := by
    intro a b hs he hab hl hK m
    induction m with
    | zero =>
      intro w g hm e3 e2 f hc
      refine b_Mo_goesOn_108 ⟨fun _ => ⟨rfl, f, by rw [e2, hs], by rw [e3, he], ?_⟩, fun c => absurd (by omega) c⟩
      rw [hK]
      rcases hc with ⟨i, i1, i2, i3, i4⟩ | ⟨i1, i2⟩
      · rw [wkI_at (by omega) i2]
        exact Or.inr (Or.inr (Or.inr (Or.inl ⟨by omega, i3, by rw [i4]; omega⟩)))
      · rw [wkI_no (fun j hj => i1 j (by omega))]
        exact Or.inr (Or.inl ⟨rfl, i2⟩)
    | succ m ih =>
      intro w g hm e3 e2 f hc
      have hT' := rgF_tp f hT
      refine b_Mo_goesOn_108 ⟨fun c => absurd c (by omega), fun _ => ⟨_, c_Mo_isSpelt (rgF_wd f hw) hT' (show w < 5 by omega) e2 e3 hab hl, fun z g1 _ hz => ?_⟩⟩
      obtain ⟨hz, rfl⟩ := hz
      cases hz
      refine ⟨fun c h2 k2 h3 k3 => ?_, fun c => ?_⟩
      · have c := ft_if1.mp c
        refine b_Mo_goesOn_134 ?_
        rw [inc1 (by omega)]
        refine ih (w + 1) h3 (by omega) (by rw [k3, ft_hs_j (by omega), k2, ft_hs_j (by omega), e3]) (by rw [k3, ft_hs_j (by omega), k2, ft_hs_j (by omega), e2]) (rgF_tr f (rgF_tr (rgF_hs (by omega) k2) (rgF_hs (by omega) k3))) (Or.inl ⟨w, by omega, c, by rw [k3, ft_hs_j (by omega), k2, ft_hs_same], by rw [k3, ft_hs_same]⟩)
      · have c := ft_if0.mp c
        refine b_Mo_goesOn_134 ?_
        rw [inc1 (by omega)]
        refine ih (w + 1) g1 (by omega) e3 e2 f ?_
        rcases hc with ⟨i, i1, i2, i3, i4⟩ | ⟨i1, i2⟩
        · exact Or.inl ⟨i, by omega, i2, i3, i4⟩
        · refine Or.inr ⟨fun j hj => ?_, i2⟩
          by_cases q : j = w
          · rw [q]; exact c
          · exact i1 j (by omega)
  -- the letters of a word
  have lts : ∀ (a : Nat), a = tkS T p → a < T.length → isLt (tb T a) = true → ∀ (m q : Nat) (g : ftH), q + m = T.length → a ≤ q → g 309 36 = (q : Int) → g 309 38 = (a : Int) → rgF h g → sp isLt T q = sp isLt T a → ft_V k_Mo_goesOn 71 [some (.inr (.inr 309)), none, none] [] g (fun r h' => r = none ∧ rgF h h' ∧ tmI h' T p) := by
    intro a hs hal yl
    have eE : tkE T p = sp isLt T a := by unfold tkE; rw [← hs, if_neg (by omega), if_pos yl]
    have eK : tkK T p = wkI (wdT T a (sp isLt T a)) := by unfold tkK; rw [eE, ← hs, if_neg (by omega), if_pos yl]
    have fin : ∀ (q : Nat) (g : ftH), q ≤ T.length → a ≤ q → g 309 36 = (q : Int) → g 309 38 = (a : Int) → rgF h g → q = sp isLt T a → ∀ h1 : ftH, h1 = ft_hs g 309 37 4 → ft_V k_Mo_goesOn 108 [some (.inr (.inr 309)), none, some (.inl 0)] [] h1 (fun r h' => r = none ∧ rgF h h' ∧ tmI h' T p) := by
      intro q g hq haq e3 e2 f hsp h1 k1
      refine wrd a q hs (by rw [eE, hsp]) ⟨haq, hq⟩ (fun j j1 j2 => sp_in j1 (by rw [← hsp]; exact j2)) (by rw [eK, hsp]) 5 0 h1 (by omega) (by rw [k1, ft_hs_j (by omega), e3]) (by rw [k1, ft_hs_j (by omega), e2]) (rgF_tr f (rgF_hs (by omega) k1)) (Or.inr ⟨fun i hi => absurd hi (Nat.not_lt_zero i), by rw [k1, ft_hs_same]⟩)
    intro m
    induction m with
    | zero =>
      intro q g hm haq e3 e2 f hsp
      have hT' := rgF_tp f hT
      refine b_Mo_goesOn_71 ⟨⟨by omega, by rw [hT'.1]; omega⟩, fun c => fin q g (by omega) haq e3 e2 f ?_, fun c => ?_⟩
      · rw [← hsp, sp_step f_lt, tb_end (by omega), f_lt]
        rfl
      · rw [here_tb hT' e3, tb_end (by omega)] at c
        omega
    | succ m ih =>
      intro q g hm haq e3 e2 f hsp
      have hT' := rgF_tp f hT
      refine b_Mo_goesOn_71 ⟨⟨by omega, by rw [hT'.1]; omega⟩, ?_⟩
      rw [here_tb hT' e3]
      refine ⟨fun c => fin q g (by omega) haq e3 e2 f ?_, fun c h2 k2 => ?_⟩
      · rw [← hsp, sp_step f_lt, if_neg (fun z => c (isLt_iff.mp z))]
      · rw [e3, inc1 (by omega)] at k2
        exact ih (q + 1) h2 (by omega) (by omega) (by rw [k2, ft_hs_same]) (by rw [k2, ft_hs_j (by omega), e2]) (rgF_tr f (rgF_hs (by omega) k2)) (by rw [← hsp, sp_step f_lt T q, if_pos (isLt_iff.mpr c)])
  have loop : ∀ (m q : Nat) (g : ftH), q + m = T.length → g 309 36 = (q : Int) → rgF h g → sp isSp T q = tkS T p → ft_V k_Mo_goesOn 0 [some (.inr (.inr 309)), none, none] [] g (fun r h' => r = none ∧ rgF h h' ∧ tmI h' T p) := by
    have body : ∀ (q : Nat) (g : ftH), q ≤ T.length → g 309 36 = (q : Int) → rgF h g → (isSp (tb T q) = true → ft_V k_Mo_goesOn 18 [some (.inr (.inr 309)), none, none] [] g (fun r h' => r = none ∧ rgF h h' ∧ tmI h' T p)) → (¬ isSp (tb T q) = true → q = tkS T p) → ft_V k_Mo_goesOn 0 [some (.inr (.inr 309)), none, none] [] g (fun r h' => r = none ∧ rgF h h' ∧ tmI h' T p) := by
      intro q g hq e3 f k18 hsn
      have hT' := rgF_tp f hT
      have rg : 0 ≤ g 309 36 ∧ g 309 34 ≤ 2200 := ⟨by omega, by rw [hT'.1]; omega⟩
      refine b_Mo_goesOn_0 ⟨rg, ?_⟩
      rw [here_tb hT' e3]
      refine ⟨fun c => k18 (isSp_iff.mpr (Or.inl c)), fun c => ⟨rg, fun d h1 k1 => ?_, fun d => k18 (isSp_iff.mpr (Or.inr d))⟩⟩
      have hs := hsn (fun z => by rcases isSp_iff.mp z with z | z <;> omega)
      rw [e3] at k1
      have f1 : rgF h h1 := rgF_tr f (rgF_hs (by omega) k1)
      have T1 := rgF_tp f1 hT
      have e1 : h1 309 36 = (q : Int) := by rw [k1, ft_hs_j (by omega)]; exact e3
      have e2 : h1 309 38 = (q : Int) := by rw [k1, ft_hs_same]
      refine ⟨⟨by omega, by rw [T1.1]; omega⟩, fun n7 e7 => ?_⟩
      rw [here_tb T1 e1] at e7
      refine ⟨fun cn => ⟨fun cl => ⟨fun cd h2 k2 h3 k3 => ?_, fun cd h5 k5 => ?_⟩, fun cl => ?_⟩, fun cn h6 k6 => ?_⟩
      · have hql : q < T.length := by
          by_cases z : q < T.length
          · exact z
          · exact absurd (by rw [e7, tb_end (by omega)]) cn
        have nl : ¬ isLt (tb T (tkS T p)) = true := fun z => cl (by rw [e7, hs]; exact isLt_iff.mp z)
        have nd : ¬ isDg (tb T (tkS T p)) = true := fun z => cd (by rw [e7, hs]; exact isDg_iff.mp z)
        have eE : tkE T p = q + 1 := by unfold tkE; rw [if_neg (by omega), if_neg nl, if_neg nd, ← hs]
        rw [e1, inc1 (by omega)] at k2
        have f3 : rgF h h3 := rgF_tr f1 (rgF_tr (rgF_hs (by omega) k2) (rgF_hs (by omega) k3))
        have a3 : h3 309 36 = ((q + 1 : Nat) : Int) := by rw [k3, ft_hs_j (by omega), k2, ft_hs_same]
        have b3 : h3 309 38 = (q : Int) := by rw [k3, ft_hs_j (by omega), k2, ft_hs_j (by omega), e2]
        have s3 : h3 309 40 = n7 := by rw [k3, ft_hs_same]
        have sg : (n7 = 59 ∨ n7 = 46 ∨ n7 = 47) → ft_V k_Mo_goesOn 283 [none, none, none] [.inr (.inr 309)] h3 (fun r h' => r = none ∧ rgF h h' ∧ tmI h' T p) := fun c => by
          refine b_Mo_goesOn_283 (fun h4 k4 => ⟨rfl, rgF_tr f3 (rgF_hs (by omega) k4), by rw [k4, ft_hs_j (by omega), b3, hs], by rw [k4, ft_hs_j (by omega), a3, eE], ?_⟩)
          have eK : tkK T p = n7 := by unfold tkK; rw [if_neg (by omega), if_neg nl, if_neg nd, ← hs, ← e7, if_pos c]
          rw [eK]
          exact Or.inr (Or.inr (Or.inr (Or.inr ⟨by omega, by rw [k4, ft_hs_same], by rw [k4, ft_hs_j (by omega), s3]⟩)))
        refine ⟨fun c => sg (Or.inl c), fun c1 => ⟨fun c => sg (Or.inr (Or.inl c)), fun c2 => ⟨fun c3 h4 k4 => ⟨rfl, rgF_tr f3 (rgF_hs (by omega) k4), by rw [k4, ft_hs_j (by omega), b3, hs], by rw [k4, ft_hs_j (by omega), a3, eE], ?_⟩, fun c => sg (Or.inr (Or.inr c))⟩⟩⟩
        have eK : tkK T p = 1 := by unfold tkK; rw [if_neg (by omega), if_neg nl, if_neg nd, ← hs, ← e7, if_neg (by omega)]
        rw [eK]
        exact Or.inr (Or.inl ⟨rfl, by rw [k4, ft_hs_same]⟩)
      · have hql : q < T.length := by
          by_cases z : q < T.length
          · exact z
          · exact absurd (by rw [e7, tb_end (by omega)]) cn
        rw [e7] at cl cd
        exact num q hs hql (fun z => cl (isLt_iff.mp z)) (isDg_iff.mpr cd) (T.length - q) q h5 (by omega) (Nat.le_refl q) (by rw [k5, ft_hs_j (by omega), e1]) (by rw [k5, ft_hs_j (by omega), e2]) (rgF_tr f1 (rgF_hs (by omega) k5)) (by rw [k5, ft_hs_same, Nat.sub_self]; rfl) (fun j j1 j2 => by omega) rfl
      · have hql : q < T.length := by
          by_cases z : q < T.length
          · exact z
          · exact absurd (by rw [e7, tb_end (by omega)]) cn
        rw [e7] at cl
        exact lts q hs hql (isLt_iff.mpr cl) (T.length - q) q h1 (by omega) (Nat.le_refl q) e1 e2 f1 rfl
      · have hql : T.length ≤ q := by
          by_cases z : q < T.length
          · have := (tb_ref T1 z).2
            omega
          · omega
        have eE : tkE T p = q := by unfold tkE; rw [if_pos (by omega), ← hs]
        have eK : tkK T p = 0 := by unfold tkK; rw [if_pos (by omega)]
        refine ⟨rfl, rgF_tr f1 (rgF_hs (by omega) k6), by rw [k6, ft_hs_j (by omega), e2, hs], by rw [k6, ft_hs_j (by omega), e1, eE], ?_⟩
        rw [eK]
        exact Or.inl ⟨rfl, by rw [k6, ft_hs_same]⟩
    intro m
    induction m with
    | zero =>
      intro q g hm e3 f hs
      refine body q g (by omega) e3 f (fun z => ?_) (fun z => ?_)
      · rw [tb_end (by omega), f_sp] at z
        cases z
      · rw [← hs, sp_step f_sp, if_neg z]
    | succ m ih =>
      intro q g hm e3 f hs
      refine body q g (by omega) e3 f (fun z => b_Mo_goesOn_18 (fun h1 k1 => ?_)) (fun z => ?_)
      · rw [e3, inc1 (by omega)] at k1
        exact ih (q + 1) h1 (by omega) (by rw [k1, ft_hs_same]) (rgF_tr f (rgF_hs (by omega) k1)) (by rw [← hs, sp_step f_sp T q, if_pos z])
      · rw [← hs, sp_step f_sp, if_neg z]
  exact ft_enter (n := 2) rfl (Nat.le_of_ble_eq_true rfl) rfl (loop (T.length - p) p h (by omega) h3 (rgF_rf h) rfl)
