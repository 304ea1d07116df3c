/-! SETTLING: THE WHOLE CONTRACT -/
def lv4 (h : ftH) (S : ftS) : Prop := plI h (plL (plH S.2.2.1 (tOf S) (2 * S.1)) (tOf S)) ∧ h 289 5 = (if (togC S.2.2.1 (tOf S) : Int) ≤ 2 * S.1 then 0 else 1)
theorem lv4_fr {h h' : ftH} {S : ftS} (f : ∀ c, 289 ≤ c → c < 294 → h' c = h c) (hl : lv4 h S) : lv4 h' S := by
  unfold lv4 plI plA at hl ⊢
  rw [f 289 (by omega) (by omega), f 290 (by omega) (by omega), f 291 (by omega) (by omega), f 292 (by omega) (by omega), f 293 (by omega) (by omega)]
  exact hl
/-- what is settled is right -/
def csI (h : ftH) (S : ftS) : Prop := (0 ≤ h 0 5 ∧ h 0 5 ≤ 4) ∧ (1 ≤ h 0 5 → lv1 h S) ∧ (2 ≤ h 0 5 → lv2 h S) ∧ (3 ≤ h 0 5 → lv3 h S) ∧ (4 ≤ h 0 5 → lv4 h S)
/-- what settling leaves alone -/
def sFr (h h' : ftH) : Prop := (∀ k, (k ≠ 0 ∧ k < 115) ∨ 294 ≤ k → h' k = h k) ∧ ∀ j, j ≠ 5 → h' 0 j = h 0 j
theorem sFr_rfl (h : ftH) : sFr h h := ⟨fun _ _ => rfl, fun _ _ => rfl⟩
theorem sFr_tr {h h1 h2 : ftH} (a : sFr h h1) (b : sFr h1 h2) : sFr h h2 := ⟨fun k hk => by rw [b.1 k hk, a.1 k hk], fun j hj => by rw [b.2 j hj, a.2 j hj]⟩
theorem sFr_step {g g1 g2 : ftH} {n : Int} (f : ∀ k, k < 115 ∨ 294 ≤ k → g1 k = g k) (e : g2 = ft_hs g1 0 5 n) : sFr g g2 := ⟨fun k hk => by rw [e, ft_hs_ne k (by omega), f k (by omega)], fun j hj => by rw [e, ft_hs_j hj, f 0 (by omega)]⟩
theorem sFr_cc {h h' : ftH} {S : ftS} {P : List ftS} (hI : ccI h S P) (f : sFr h h') : ccI h' S P := ccI_fr hI (fun k k1 k2 => f.1 k (by omega))
theorem csI_fr {h h' : ftH} {S : ftS} (f : ∀ k, 115 ≤ k → k < 294 → h' k = h k) (e : h' 0 5 = h 0 5) (hs : csI h S) : csI h' S := by
  obtain ⟨a, b, c, d, g⟩ := hs
  unfold csI
  rw [e]
  exact ⟨a, fun q => lv1_fr (fun c c1 c2 => f c (by omega) (by omega)) (b q), fun q => lv2_fr (fun c c1 c2 => f c (by omega) (by omega)) (c q), fun q => lv3_fr (fun c c1 c2 => f c (by omega) (by omega)) (d q), fun q => lv4_fr (fun c c1 c2 => f c (by omega) (by omega)) (g q)⟩
theorem v_settle163 {h g : ftH} {S : ftS} {P : List ftS} (hI : ccI g S P) {B : Int} (hok : sOk B S) (hc : csI g S) (hf : sFr h g) {n : Int} (hn : 1 ≤ n ∧ n ≤ 4) (hm : min n 3 ≤ g 0 5) : ft_V k_FT_settle 163 [some (.inr (.inr 0)), some (.inl n)] [] g (fun r h' => r = none ∧ (sFr h h' ∧ csI h' S) ∧ n ≤ h' 0 5) := by
  obtain ⟨a, b, c, d, e⟩ := hc
  refine b_FT_settle_163 ⟨fun q => ⟨rfl, ⟨hf, a, b, c, d, e⟩, by omega⟩, fun q => ⟨fun q1 => ⟨rfl, ⟨hf, a, b, c, d, e⟩, by omega⟩, fun q1 => ?_⟩⟩
  obtain ⟨p1, p2, p3⟩ := cc_ps hI hok
  obtain ⟨e0, e1, e2, e3, e4⟩ := cc_eq hI
  have hcap := hok.1
  have hT := tOf_ok hok
  have hl3 := d (by omega)
  refine ⟨by rw [e0]; omega, _, c_SP_make sh_5 s_145 (Or.inl (by omega)) (Or.inl (by omega)) hT.2 p2 e2 hl3.2.2.2.2.1 hl3.2.2.2.2.2, fun h1 w h2 k2 => ?_⟩
  obtain ⟨-, w1, w2, w3, w4⟩ := w
  rw [e0] at w1 w2
  have f2 : ∀ k, k ≠ 0 → k < 289 ∨ 294 ≤ k → h2 k = g k := fun k k0 k1 => by rw [k2, ft_hs_ne k k0, w3 k k1]
  have e5 : h2 0 5 = 4 := by rw [k2, ft_hs_same]
  refine ⟨rfl, ⟨sFr_tr hf (sFr_step (fun k hk => w3 k (by omega)) k2), ?_⟩, by rw [e5]; omega⟩
  unfold csI
  rw [e5]
  refine ⟨by omega, fun _ => lv1_fr (fun c c1 c2 => f2 c (by omega) (by omega)) (b (by omega)), fun _ => lv2_fr (fun c c1 c2 => f2 c (by omega) (by omega)) (c (by omega)), fun _ => lv3_fr (fun c c1 c2 => f2 c (by omega) (by omega)) hl3, fun _ => lv4_fr (h := h1) (fun c c1 c2 => by rw [k2, ft_hs_ne c (by omega)]) ⟨w1, w2⟩⟩
theorem v_settle87 {h g : ftH} {S : ftS} {P : List ftS} (hI : ccI g S P) {B : Int} (hok : sOk B S) (hc : csI g S) (hf : sFr h g) {n : Int} (hn : 1 ≤ n ∧ n ≤ 4) (hm : min n 2 ≤ g 0 5) : ft_V k_FT_settle 87 [some (.inr (.inr 0)), some (.inl n)] [] g (fun r h' => r = none ∧ (sFr h h' ∧ csI h' S) ∧ n ≤ h' 0 5) := by
  refine b_FT_settle_87 ⟨fun q => v_settle163 hI hok hc hf hn (by omega), fun q => ⟨fun q1 => v_settle163 hI hok hc hf hn (by omega), fun q1 => ?_⟩⟩
  obtain ⟨a, b, c, d, e⟩ := hc
  have hl2 := c (by omega)
  refine st_3 hI hok hl2 (R := fun h3 => ∀ h4 : ftH, h4 = ft_hs h3 0 5 3 → ft_V k_FT_settle 163 [some (.inr (.inr 0)), some (.inl n)] [] h4 (fun r h' => r = none ∧ (sFr h h' ∧ csI h' S) ∧ n ≤ h' 0 5)) (fun h3 w1 w2 h4 k2 => ?_)
  have f2 : ∀ k, k ≠ 0 → k < 143 ∨ 289 ≤ k → h4 k = g k := fun k k0 k1 => by rw [k2, ft_hs_ne k k0, w1 k k1]
  have e5 : h4 0 5 = 3 := by rw [k2, ft_hs_same]
  have hs := sFr_step (g := g) (fun k hk => w1 k (by omega)) k2
  refine v_settle163 (sFr_cc hI hs) hok ?_ (sFr_tr hf hs) hn (by rw [e5]; omega)
  unfold csI
  rw [e5]
  exact ⟨by omega, fun _ => lv1_fr (fun c c1 c2 => f2 c (by omega) (by omega)) (b (by omega)), fun _ => lv2_fr (fun c c1 c2 => f2 c (by omega) (by omega)) hl2, fun _ => lv3_fr (h := h3) (fun c c1 c2 => by rw [k2, ft_hs_ne c (by omega)]) w2, fun q => absurd q (by omega)⟩
theorem v_settle32 {h g : ftH} {S : ftS} {P : List ftS} (hI : ccI g S P) {B : Int} (hok : sOk B S) (hc : csI g S) (hf : sFr h g) {n : Int} (hn : 1 ≤ n ∧ n ≤ 4) (hm : min n 1 ≤ g 0 5) : ft_V k_FT_settle 32 [some (.inr (.inr 0)), some (.inl n)] [] g (fun r h' => r = none ∧ (sFr h h' ∧ csI h' S) ∧ n ≤ h' 0 5) := by
  refine b_FT_settle_32 ⟨fun q => v_settle87 hI hok hc hf hn (by omega), fun q => ⟨fun q1 => v_settle87 hI hok hc hf hn (by omega), fun q1 => ?_⟩⟩
  obtain ⟨a, b, c, d, e⟩ := hc
  have hl1 := b (by omega)
  refine st_2 hI hok (R := fun h3 => ∀ h4 : ftH, h4 = ft_hs h3 0 5 2 → ft_V k_FT_settle 87 [some (.inr (.inr 0)), some (.inl n)] [] h4 (fun r h' => r = none ∧ (sFr h h' ∧ csI h' S) ∧ n ≤ h' 0 5)) (fun h3 w1 w2 h4 k2 => ?_)
  have f2 : ∀ k, k ≠ 0 → k < 122 ∨ 143 ≤ k → h4 k = g k := fun k k0 k1 => by rw [k2, ft_hs_ne k k0, w1 k k1]
  have e5 : h4 0 5 = 2 := by rw [k2, ft_hs_same]
  have hs := sFr_step (g := g) (fun k hk => w1 k (by omega)) k2
  refine v_settle87 (sFr_cc hI hs) hok ?_ (sFr_tr hf hs) hn (by rw [e5]; omega)
  unfold csI
  rw [e5]
  exact ⟨by omega, fun _ => lv1_fr (fun c c1 c2 => f2 c (by omega) (by omega)) hl1, fun _ => lv2_fr (h := h3) (fun c c1 c2 => by rw [k2, ft_hs_ne c (by omega)]) w2, fun q => absurd q (by omega), fun q => absurd q (by omega)⟩
theorem c_FT_settle {h : ftH} {S : ftS} {P : List ftS} (hI : ccI h S P) {B : Int} (hok : sOk B S) (hc : csI h S) {n : Int} (hn : 1 ≤ n ∧ n ≤ 4) : ft_C k_FT_settle [.inr (.inr 0), .inl n] h (fun r h' => r = none ∧ (sFr h h' ∧ csI h' S) ∧ n ≤ h' 0 5) := by
  refine ft_enter (n := 0) rfl (Nat.le_of_ble_eq_true rfl) rfl (b_FT_settle_0 ⟨fun q => v_settle32 hI hok hc (sFr_rfl h) hn (by omega), fun q => ⟨fun q1 => absurd q1 (by omega), fun q1 => ⟨_, st_1 hI hok, fun h3 w h4 k2 => ?_⟩⟩⟩)
  obtain ⟨-, w1, w2⟩ := w
  have e5 : h4 0 5 = 1 := by rw [k2, ft_hs_same]
  have hs := sFr_step (g := h) (fun k hk => w1 k (by omega)) k2
  refine v_settle32 (sFr_cc hI hs) hok ?_ hs hn (by rw [e5]; omega)
  unfold csI
  rw [e5]
  exact ⟨by omega, fun _ => lv1_fr (h := h3) (fun c c1 c2 => by rw [k2, ft_hs_ne c (by omega)]) w2, fun q => absurd q (by omega), fun q => absurd q (by omega), fun q => absurd q (by omega)⟩
