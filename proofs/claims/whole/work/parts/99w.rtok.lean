/-! TOKENS: the reference -/
def wl : List Int := [99, 97, 112, 97, 99, 105, 116, 121, 0, 114, 111, 117, 116, 101, 0, 104, 111, 112, 0, 115, 101, 101, 110, 0, 116, 105, 109, 101, 115, 0]
def wdsI (h : ftH) : Prop := ∀ j, j < 30 → h 331 j = wl.getD j 0
def wst (w : Nat) : Nat := [0, 9, 15, 19, 24].getD w 0
def wfs : Nat → Nat → Nat → Option Nat
  | 0, _, _ => none
  | n + 1, k, o => if o = 0 then some k else if k < 30 then wfs n (k + 1) (if wl.getD k 0 = 0 then o - 1 else o) else none
theorem wfs_ok : ∀ w, w < 5 → wfs 31 0 w = some (wst w) := by decide +kernel
theorem wl_ok : ∀ w, w < 5 → wst w + cl w < 30 ∧ wl.getD (wst w + cl w) 0 = 0 ∧ ∀ j, j < cl w → wl.getD (wst w + j) 0 = ch w j := by decide +kernel
theorem txt_ne : ∀ i, i < 5 → ∀ j, j < 5 → i ≠ j → txt i ≠ txt j := by decide +kernel
theorem v_Mo_wf {h : ftH} (hw : wdsI h) {s : Nat} {R : Option ftV → ftH → Prop} (hk : R (some (.inl (s : Int))) h) : ∀ (n k o : Nat), o < 10 → wfs n k o = some s → ft_V k_Mo_wordFrom 4 [some (.inr (.inr 309)), none, some (.inl (k : Int)), some (.inl (o : Int))] [] h R := by
  intro n
  induction n with
  | zero => intro k o _ h1; cases h1
  | succ n ih =>
    intro k o ho h1
    rw [wfs] at h1
    by_cases c : o = 0
    · rw [if_pos c] at h1
      cases h1
      exact b_Mo_wordFrom_4 ⟨fun _ => hk, fun q => absurd (by omega) q⟩
    · rw [if_neg c] at h1
      by_cases d : k < 30
      · rw [if_pos d] at h1
        refine b_Mo_wordFrom_4 ⟨fun q => absurd q (by omega), fun _ => ⟨⟨by omega, by omega⟩, ?_⟩⟩
        rw [Int.toNat_natCast, hw k d, inc1 (by omega)]
        refine ⟨fun q => ?_, fun q => ?_⟩
        · rw [if_neg q] at h1
          exact ih (k + 1) o ho h1
        · rw [if_pos q] at h1
          rw [ft_add_eq ⟨by omega, by omega⟩, show (o : Int) + -1 = ((o - 1 : Nat) : Int) by omega]
          exact ih (k + 1) (o - 1) (by omega) h1
      · rw [if_neg d] at h1
        cases h1
theorem c_Mo_wordFrom {h : ftH} (hw : wdsI h) {w : Nat} (h5 : w < 5) : ft_C k_Mo_wordFrom [.inr (.inr 309), .inl (w : Int)] h (fun r h' => r = some (.inl (wst w : Int)) ∧ h' = h) :=
  ft_enter (n := 2) rfl (Nat.le_of_ble_eq_true rfl) rfl (b_Mo_wordFrom_0 (v_Mo_wf hw (s := wst w) ⟨rfl, rfl⟩ 31 0 w (by omega) (wfs_ok w h5)))
theorem wdT_len (T : List Int) (a b : Nat) : (wdT T a b).length = b - a := by simp [wdT]
theorem txt_len (i : Nat) : (txt i).length = cl i := by simp [txt]
theorem wdT_eq {T : List Int} {a b i : Nat} (hl : b - a = cl i) (he : ∀ j, j < cl i → tb T (a + j) = ch i j) : wdT T a b = txt i := by
  unfold wdT txt
  rw [hl]
  exact List.map_congr_left (fun j hj => he j (List.mem_range.mp hj))
theorem wdT_ne {T : List Int} {a b i j : Nat} (hj : j < cl i) (hjb : j < b - a) (he : tb T (a + j) ≠ ch i j) : ¬ wdT T a b = txt i := fun q => by
  have h1 : (wdT T a b)[j]? = some (tb T (a + j)) := by simp [wdT, List.getElem?_range hjb]
  have h2 : (txt i)[j]? = some (ch i j) := by simp [txt, List.getElem?_range hj]
  rw [q, h2] at h1
  exact he (Option.some.inj h1).symm
theorem c_Mo_isSpelt {h : ftH} (hw : wdsI h) {T : List Int} (hT : tpM h T) {w a b : Nat} (h5 : w < 5) (ha : h 309 38 = (a : Int)) (hb : h 309 36 = (b : Int)) (hab : a ≤ b ∧ b ≤ T.length) (hl : ∀ j, a ≤ j → j < b → isLt (tb T j) = true) : ft_C k_Mo_isSpelt [.inr (.inr 309), .inl (w : Int)] h (fun r h' => r = some (.inl (if wdT T a b = txt w then 1 else 0)) ∧ h' = h) := by
  obtain ⟨w1, w2, w3⟩ := wl_ok w h5
  have h22 := hT.2.1
  have c8 := (cl_ok w h5).2.1
  have fin : ∀ k : Nat, a + k ≤ b → k ≤ cl w → (∀ j, j < k → tb T (a + j) = ch w j) → (a + k < b → (k < cl w ∧ tb T (a + k) ≠ ch w k) ∨ k = cl w) → ((¬ (ft_add (h 309 38) (k : Int) = h 309 36) → ((some (.inl 0) : Option ftV) = some (.inl (if wdT T a b = txt w then 1 else 0)) ∧ h = h)) ∧ (ft_add (h 309 38) (k : Int) = h 309 36 → ((0 ≤ ft_add (wst w : Int) (k : Int) ∧ ft_add (wst w : Int) (k : Int) < 30) ∧ ((¬ (h 331 (ft_add (wst w : Int) (k : Int)).toNat = 0) → ((some (.inl 0) : Option ftV) = some (.inl (if wdT T a b = txt w then 1 else 0)) ∧ h = h)) ∧ (h 331 (ft_add (wst w : Int) (k : Int)).toNat = 0 → ((some (.inl 1) : Option ftV) = some (.inl (if wdT T a b = txt w then 1 else 0)) ∧ h = h)))))) := by
    intro k hkb hkc he hm
    rw [ha, hb, addNN (by omega), addNN (by omega), Int.toNat_natCast]
    refine ⟨fun q => ?_, fun q => ⟨⟨by omega, by omega⟩, fun d => ?_, fun d => ?_⟩⟩
    · have hlt : a + k < b := by omega
      refine ⟨?_, rfl⟩
      rcases hm hlt with ⟨m1, m2⟩ | m1
      · rw [if_neg (wdT_ne m1 (by omega) m2)]
      · rw [if_neg (fun e => ?_)]
        have := congrArg List.length e
        rw [wdT_len, txt_len] at this
        omega
    · rw [hw _ (by omega)] at d
      refine ⟨?_, rfl⟩
      rw [if_neg (fun e => ?_)]
      have := congrArg List.length e
      rw [wdT_len, txt_len] at this
      rw [show wst w + k = wst w + cl w by omega, w2] at d
      exact d rfl
    · rw [hw _ (by omega)] at d
      have hk : k = cl w := by
        by_cases e : k < cl w
        · rw [w3 k e] at d
          have := (ch_ok w h5 k e).1
          omega
        · omega
      refine ⟨?_, rfl⟩
      rw [if_pos (wdT_eq (by omega) (fun j hj => he j (by omega)))]
  have loop : ∀ m k : Nat, a + k + m = b → k ≤ cl w → (∀ j, j < k → tb T (a + j) = ch w j) → ft_V k_Mo_isSpelt 8 [some (.inr (.inr 309)), none, some (.inl (wst w : Int)), some (.inl (k : Int))] [] h (fun r h' => r = some (.inl (if wdT T a b = txt w then 1 else 0)) ∧ h' = h) := by
    intro m
    induction m with
    | zero =>
      intro k hm hk he
      exact b_Mo_isSpelt_8 ⟨fun _ => fin k (by omega) hk he (fun q => by omega), fun c => absurd (by rw [ha, hb, addNN (by omega)]; omega) c⟩
    | succ m ih =>
      intro k hm hk he
      have ht := tb_ref hT (show a + k < T.length by omega)
      have hlt := isLt_iff.mp (hl (a + k) (by omega) (by omega))
      refine b_Mo_isSpelt_8 ⟨fun c => absurd c (by rw [ha, hb, addNN (by omega)]; omega), fun _ => ?_⟩
      have e1 : ft_add (wst w : Int) (k : Int) = ((wst w + k : Nat) : Int) := addNN (by omega)
      have e2 : ft_add (h 309 38) (k : Int) = ((a + k : Nat) : Int) := by rw [ha]; exact addNN (by omega)
      refine ⟨⟨by omega, by omega⟩, ⟨by omega, by omega⟩, fun c => fin k (by omega) hk he (fun _ => ?_), fun c => ?_⟩
      · rw [e1, e2, Int.toNat_natCast, Int.toNat_natCast, hw _ (by omega), ht.1] at c
        by_cases e : k < cl w
        · rw [w3 k e] at c
          exact Or.inl ⟨e, fun z => c z.symm⟩
        · exact Or.inr (by omega)
      · rw [e1, e2, Int.toNat_natCast, Int.toNat_natCast, hw _ (by omega), ht.1] at c
        have hkc : k < cl w := by
          by_cases e : k < cl w
          · exact e
          · rw [show wst w + k = wst w + cl w by omega, w2] at c
            omega
        rw [w3 k hkc] at c
        rw [inc1 (by omega)]
        refine ih (k + 1) (by omega) (by omega) (fun j hj => ?_)
        by_cases q : j = k
        · rw [q]; exact c.symm
        · exact he j (by omega)
  refine ft_enter (n := 2) rfl (Nat.le_of_ble_eq_true rfl) rfl (b_Mo_isSpelt_0 ⟨_, c_Mo_wordFrom hw h5, fun z h1 _ hz => ?_⟩)
  obtain ⟨hz, rfl⟩ := hz
  cases hz
  exact loop (b - a) 0 (by omega) (Nat.zero_le _) (fun j hj => absurd hj (Nat.not_lt_zero j))
def rgF (h h' : ftH) : Prop := (∀ c, c ≠ 309 → h' c = h c) ∧ ∀ j, j < 36 ∨ 42 ≤ j → h' 309 j = h 309 j
theorem rgF_tr {h g k : ftH} (a : rgF h g) (b : rgF g k) : rgF h k := ⟨fun c hc => by rw [b.1 c hc, a.1 c hc], fun j hj => by rw [b.2 j hj, a.2 j hj]⟩
theorem rgF_rf (h : ftH) : rgF h h := ⟨fun _ _ => rfl, fun _ _ => rfl⟩
theorem rgF_hs {h h' : ftH} {j : Nat} {z : Int} (hj : 36 ≤ j ∧ j ≤ 41) (e : h' = ft_hs h 309 j z) : rgF h h' := ⟨fun c hc => by rw [e, ft_hs_ne c hc], fun i hi => by rw [e, ft_hs_j (by omega)]⟩
theorem rgF_tp {h h' : ftH} {T : List Int} (f : rgF h h') (hT : tpM h T) : tpM h' T := ⟨by rw [f.2 34 (by omega)]; exact hT.1, hT.2.1, fun j x hx => by rw [f.1 330 (by omega)]; exact hT.2.2 j x hx⟩
theorem rgF_wd {h h' : ftH} (f : rgF h h') (hw : wdsI h) : wdsI h' := fun j hj => by rw [f.1 331 (by omega)]; exact hw j hj
def tmK (h : ftH) (k n : Int) : Prop := (k = 0 ∧ h 309 37 = 0) ∨ (k = 1 ∧ h 309 37 = 4) ∨ (k = 2 ∧ h 309 37 = 2 ∧ h 309 41 = n) ∨ ((3 ≤ k ∧ k ≤ 7) ∧ h 309 37 = 1 ∧ h 309 39 = k - 3) ∨ ((k = 46 ∨ k = 47 ∨ k = 59) ∧ h 309 37 = 3 ∧ h 309 40 = k)
def tmI (h : ftH) (T : List Int) (p : Nat) : Prop := h 309 38 = (tkS T p : Int) ∧ h 309 36 = (tkE T p : Int) ∧ tmK h (tkK T p) (tkN T p)
theorem here_tb {h : ftH} {T : List Int} (hT : tpM h T) {q : Nat} (hq : h 309 36 = (q : Int)) : m_here h = tb T q := by
  unfold m_here
  rw [hq, hT.1]
  by_cases c : q < T.length
  · rw [if_pos (by omega), Int.toNat_natCast, (tb_ref hT c).1]
  · rw [if_neg (by omega), tb_end (by omega)]
theorem wkI_at {w : List Int} {i : Nat} (h5 : i < 5) (e : w = txt i) : wkI w = (i : Int) + 3 := by
  have n : ∀ j, j < 5 → j ≠ i → ¬ w = txt j := fun j hj hne q => txt_ne i h5 j hj (fun z => hne z.symm) (e.symm.trans q)
  unfold wkI
  match i, h5 with
  | 0, _ => rw [if_pos e]; rfl
  | 1, _ => rw [if_neg (n 0 (by omega) (by omega)), if_pos e]; rfl
  | 2, _ => rw [if_neg (n 0 (by omega) (by omega)), if_neg (n 1 (by omega) (by omega)), if_pos e]; rfl
  | 3, _ => rw [if_neg (n 0 (by omega) (by omega)), if_neg (n 1 (by omega) (by omega)), if_neg (n 2 (by omega) (by omega)), if_pos e]; rfl
  | 4, _ => rw [if_neg (n 0 (by omega) (by omega)), if_neg (n 1 (by omega) (by omega)), if_neg (n 2 (by omega) (by omega)), if_neg (n 3 (by omega) (by omega)), if_pos e]; rfl
theorem wkI_no {w : List Int} (h : ∀ j, j < 5 → ¬ w = txt j) : wkI w = 1 := by
  unfold wkI
  rw [if_neg (h 0 (by omega)), if_neg (h 1 (by omega)), if_neg (h 2 (by omega)), if_neg (h 3 (by omega)), if_neg (h 4 (by omega))]
