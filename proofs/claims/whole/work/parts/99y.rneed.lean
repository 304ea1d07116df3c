/-! READING THE TAPE: the reference's needs; wrong (.inl its position) or at a token (.inr p) -/
def rdI (h : ftH) (T : List Int) : Nat ⊕ Nat → Prop
  | .inl e => h 309 43 = 1 ∧ h 309 42 = (e : Int)
  | .inr p => h 309 43 = 0 ∧ (p ≤ T.length ∧ h 309 42 = -2) ∧ tmI h T p
/-- what all this reading leaves alone -/
def rdF (h h' : ftH) : Prop := (∀ c, c ≠ 309 → h' c = h c) ∧ ∀ j, j < 36 → h' 309 j = h 309 j
theorem rdF_tr {h g k : ftH} (a : rdF h g) (b : rdF g k) : rdF h k := ⟨fun c hc => by rw [b.1 c hc, a.1 c hc], fun j hj => by rw [b.2 j hj, a.2 j hj]⟩
theorem rdF_rf (h : ftH) : rdF h h := ⟨fun _ _ => rfl, fun _ _ => rfl⟩
theorem rdF_g {h h' : ftH} (f : rgF h h') : rdF h h' := ⟨f.1, fun j hj => f.2 j (by omega)⟩
/-- the tape and the words stand -/
def rdB (h : ftH) (T : List Int) : Prop := wdsI h ∧ tpM h T
theorem rdF_B {h h' : ftH} {T : List Int} (f : rdF h h') (hB : rdB h T) : rdB h' T := ⟨fun j hj => by rw [f.1 331 (by omega)]; exact hB.1 j hj, by rw [f.2 34 (by omega)]; exact hB.2.1, hB.2.2.1, fun j x hx => by rw [f.1 330 (by omega)]; exact hB.2.2.2 j x hx⟩
def fX (T : List Int) : Nat ⊕ Nat → Nat ⊕ Nat
  | .inl e => .inl e
  | .inr p => .inl (tkS T p)
def wX (T : List Int) (k : Int) : Nat ⊕ Nat → Nat ⊕ Nat
  | .inl e => .inl e
  | .inr p => if tkK T p = k then .inr (tkE T p) else .inl (tkS T p)
def nX (T : List Int) (lo hi : Int) : Nat ⊕ Nat → Int × (Nat ⊕ Nat)
  | .inl e => (lo, .inl e)
  | .inr p => if nmB T p lo hi = true then (tkN T p, .inr (tkE T p)) else (lo, .inl (tkS T p))
theorem d_Mo_goesOn {h : ftH} {T : List Int} (hB : rdB h T) {p : Nat} (hx : rdI h T (.inr p)) : ft_C k_Mo_goesOn [.inr (.inr 309)] h (fun r h' => r = none ∧ rdF h h' ∧ rdI h' T (.inr (tkE T p))) := by
  obtain ⟨x1, x2, x3⟩ := hx
  refine ft_Cw (c_Mo_goesOn hB.1 hB.2 x3.2.1 (tkE_le2 x2.1)) (fun r h' w => ⟨w.1, rdF_g w.2.1, ?_, ⟨tkE_le2 x2.1, by rw [w.2.1.2 42 (by omega)]; exact x2.2⟩, w.2.2⟩)
  rw [w.2.1.2 43 (by omega)]
  exact x1
theorem c_Mo_fails {h : ftH} {T : List Int} {x : Nat ⊕ Nat} (hx : rdI h T x) : ft_C k_Mo_fails [.inr (.inr 309)] h (fun r h' => r = none ∧ rdF h h' ∧ rdI h' T (fX T x)) := by
  refine ft_enter (n := 0) rfl (Nat.le_of_ble_eq_true rfl) rfl (b_Mo_fails_0 ⟨fun c h1 k1 h2 k2 => ?_, fun c => ?_⟩)
  · cases x with
    | inl e => have := hx.1; omega
    | inr p =>
      refine ⟨rfl, ⟨fun c hc => by rw [k2, ft_hs_ne c hc, k1, ft_hs_ne c hc], fun j hj => by rw [k2, ft_hs_j (by omega), k1, ft_hs_j (by omega)]⟩, by rw [k2, ft_hs_j (by omega), k1, ft_hs_same], ?_⟩
      rw [k2, ft_hs_same, k1, ft_hs_j (by omega)]
      exact hx.2.2.1
  · cases x with
    | inl e => exact ⟨rfl, rdF_rf h, hx⟩
    | inr p => exact absurd hx.1 c
theorem tmK_word {h : ftH} {k n : Int} (hk : tmK h k n) {w : Int} (hw : 0 ≤ w ∧ w ≤ 4) : (h 309 37 = 1 ∧ h 309 39 = w) ↔ k = w + 3 := by
  rcases hk with ⟨a, b⟩ | ⟨a, b⟩ | ⟨a, b, c⟩ | ⟨a, b, c⟩ | ⟨a, b, c⟩ <;> omega
theorem tmK_num {h : ftH} {k n : Int} (hk : tmK h k n) : (h 309 37 = 2 ↔ k = 2) ∧ (k = 2 → h 309 41 = n) := by
  rcases hk with ⟨a, b⟩ | ⟨a, b⟩ | ⟨a, b, c⟩ | ⟨a, b, c⟩ | ⟨a, b, c⟩ <;> omega
theorem tmK_sign {h : ftH} {k n : Int} (hk : tmK h k n) {c : Int} (hc : c = 46 ∨ c = 47 ∨ c = 59) : (h 309 37 = 3 ∧ h 309 40 = c) ↔ k = c := by
  rcases hk with ⟨a, b⟩ | ⟨a, b⟩ | ⟨a, b, c⟩ | ⟨a, b, c⟩ | ⟨a, b, c⟩ <;> omega
theorem tmK_end {h : ftH} {k n : Int} (hk : tmK h k n) : h 309 37 = 0 ↔ k = 0 := by
  rcases hk with ⟨a, b⟩ | ⟨a, b⟩ | ⟨a, b, c⟩ | ⟨a, b, c⟩ | ⟨a, b, c⟩ <;> omega
theorem c_Mo_needsWord {h : ftH} {T : List Int} (hB : rdB h T) {x : Nat ⊕ Nat} (hx : rdI h T x) {w : Int} (hw : 0 ≤ w ∧ w ≤ 4) : ft_C k_Mo_needsWord [.inr (.inr 309), .inl w] h (fun r h' => r = none ∧ rdF h h' ∧ rdI h' T (wX T (w + 3) x)) := by
  refine ft_enter (n := 0) rfl (Nat.le_of_ble_eq_true rfl) rfl (b_Mo_needsWord_0 ⟨fun c => ⟨_, c_Mo_fails hx, fun h1 u => ?_⟩, fun c => ?_⟩)
  · cases x with
    | inl e => exact u
    | inr p =>
      have hn : ¬ tkK T p = w + 3 := fun q => c ⟨hx.1, (tmK_word hx.2.2.2.2 hw).mpr q⟩
      simp only [wX]
      rw [if_neg hn]
      exact ⟨trivial, u.2⟩
  · cases x with
    | inl e => have := hx.1; omega
    | inr p =>
      refine ⟨_, d_Mo_goesOn hB hx, fun h1 u => ?_⟩
      simp only [wX]
      rw [if_pos ((tmK_word hx.2.2.2.2 hw).mp c.2)]
      exact ⟨trivial, u.2⟩
theorem c_Mo_needsSign {h : ftH} {T : List Int} (hB : rdB h T) {x : Nat ⊕ Nat} (hx : rdI h T x) {c : Int} (hc : c = 46 ∨ c = 47 ∨ c = 59) : ft_C k_Mo_needsSign [.inr (.inr 309), .inl c] h (fun r h' => r = none ∧ rdF h h' ∧ rdI h' T (wX T c x)) := by
  have bad : (∀ p, x = .inr p → ¬ tkK T p = c) → ∀ h1 : ftH, ((none : Option ftV) = none ∧ rdF h h1 ∧ rdI h1 T (fX T x)) → ((none : Option ftV) = none ∧ rdF h h1 ∧ rdI h1 T (wX T c x)) := fun hn h1 u => by
    cases x with
    | inl e => exact u
    | inr p =>
      simp only [wX]
      rw [if_neg (hn p rfl)]
      exact ⟨trivial, u.2⟩
  refine ft_enter (n := 0) rfl (Nat.le_of_ble_eq_true rfl) rfl (b_Mo_needsSign_0 ⟨fun d => ⟨_, c_Mo_fails hx, fun h1 u => bad (fun p ep => ?_) h1 u⟩, fun d => ⟨fun e => ⟨_, c_Mo_fails hx, fun h1 u => bad (fun p ep q => ?_) h1 u⟩, fun e => ⟨fun g => ⟨_, c_Mo_fails hx, fun h1 u => bad (fun p ep q => ?_) h1 u⟩, fun g => ?_⟩⟩⟩)
  · subst ep; exact absurd hx.1 d
  · subst ep; exact e ((tmK_sign hx.2.2.2.2 hc).mpr q).1
  · subst ep; exact g ((tmK_sign hx.2.2.2.2 hc).mpr q).2
  · cases x with
    | inl e => have := hx.1; omega
    | inr p =>
      refine ⟨_, d_Mo_goesOn hB hx, fun h1 u => ?_⟩
      simp only [wX]
      rw [if_pos ((tmK_sign hx.2.2.2.2 hc).mp ⟨e, g⟩)]
      exact ⟨trivial, u.2⟩
theorem c_Mo_needsNumber {h : ftH} {T : List Int} (hB : rdB h T) {x : Nat ⊕ Nat} (hx : rdI h T x) {lo hi : Int} : ft_C k_Mo_needsNumber [.inr (.inr 309), .inl lo, .inl hi] h (fun r h' => r = some (.inl (nX T lo hi x).1) ∧ rdF h h' ∧ rdI h' T (nX T lo hi x).2) := by
  have bad : (∀ p, x = .inr p → ¬ nmB T p lo hi = true) → ∀ h1 : ftH, ((none : Option ftV) = none ∧ rdF h h1 ∧ rdI h1 T (fX T x)) → ((some (.inl lo) : Option ftV) = some (.inl (nX T lo hi x).1) ∧ rdF h h1 ∧ rdI h1 T (nX T lo hi x).2) := fun hn h1 u => by
    cases x with
    | inl e => exact ⟨rfl, u.2⟩
    | inr p =>
      simp only [nX]
      rw [if_neg (hn p rfl)]
      exact ⟨rfl, u.2⟩
  refine ft_enter (n := 1) rfl (Nat.le_of_ble_eq_true rfl) rfl (b_Mo_needsNumber_0 ⟨fun d => ⟨_, c_Mo_fails hx, fun h1 u => bad (fun p ep => ?_) h1 u⟩, fun d => ⟨fun e => ⟨_, c_Mo_fails hx, fun h1 u => bad (fun p ep q => ?_) h1 u⟩, fun e => ⟨fun g n7 e7 => ?_, fun g => ⟨_, c_Mo_fails hx, fun h1 u => bad (fun p ep q => ?_) h1 u⟩⟩⟩⟩)
  · subst ep; exact absurd hx.1 d
  · subst ep; exact e ((tmK_num hx.2.2.2.2).1.mpr (nmB_iff.mp q).1)
  · cases x with
    | inl e => have := hx.1; omega
    | inr p =>
      have hk := tmK_num hx.2.2.2.2
      have k2 := hk.1.mp e
      rw [hk.2 k2] at g e7
      refine ⟨_, d_Mo_goesOn hB hx, fun h1 u => ?_⟩
      simp only [nX]
      rw [if_pos (nmB_iff.mpr ⟨k2, g⟩), e7]
      exact ⟨rfl, u.2⟩
  · subst ep
    have q := nmB_iff.mp q
    rw [(tmK_num hx.2.2.2.2).2 q.1] at g
    exact g q.2
/-- m bytes, each with its dot -/
def bX (T : List Int) : Nat → Int → Nat ⊕ Nat → Int × (Nat ⊕ Nat)
  | 0, v, x => (v, x)
  | m + 1, v, x => bX T m (256 * v + (nX T 0 255 x).1) (wX T 46 (nX T 0 255 x).2)
theorem nX_rng (T : List Int) (x : Nat ⊕ Nat) : 0 ≤ (nX T 0 255 x).1 ∧ (nX T 0 255 x).1 ≤ 255 := by
  cases x with
  | inl e => exact ⟨Int.le_refl 0, by simp [nX]⟩
  | inr p =>
    simp only [nX]
    split
    · next c => exact (nmB_iff.mp c).2
    · exact ⟨Int.le_refl 0, by omega⟩
theorem bX_bad (T : List Int) (e : Nat) : ∀ (m : Nat) (v : Int), (bX T m v (.inl e)).2 = .inl e
  | 0, _ => rfl
  | m + 1, v => by
    rw [bX]
    exact bX_bad T e m _
theorem bX_rng (T : List Int) : ∀ (m : Nat) (v : Int) (x : Nat ⊕ Nat) (k : Nat), 0 ≤ v → v < 256 ^ k → 0 ≤ (bX T m v x).1 ∧ (bX T m v x).1 < 256 ^ (k + m)
  | 0, v, x, k, h0, h1 => ⟨h0, h1⟩
  | m + 1, v, x, k, h0, h1 => by
    rw [bX]
    have hn := nX_rng T x
    have := bX_rng T m (256 * v + (nX T 0 255 x).1) (wX T 46 (nX T 0 255 x).2) (k + 1) (by omega) (by rw [Int.pow_succ]; omega)
    rw [show k + (m + 1) = k + 1 + m by omega]
    exact this
/-- an address out of its parts -/
theorem bX_pC (T : List Int) : ∀ (m : Nat) (v : Int) (q : Nat), (¬ nmB T q 0 255 = true → (nX T 0 255 (bX T m v (.inr q)).2).2 = .inl (tkS T q)) ∧ (nmB T q 0 255 = true → (∀ e, pC T m (256 * v + tkN T q) q = .inl e → (nX T 0 255 (bX T m v (.inr q)).2).2 = .inl e) ∧ ∀ w p4, pC T m (256 * v + tkN T q) q = .inr (w, p4) → (bX T m v (.inr q)).2 = .inr p4 ∧ nmB T p4 0 255 = true ∧ w = 256 * (bX T m v (.inr q)).1 + tkN T p4)
  | 0, v, q => by
    refine ⟨fun h => ?_, fun h => ⟨fun e he => (by cases he), fun w p4 he => ?_⟩⟩
    · simp only [bX, nX]
      rw [if_neg h]
    · rw [pC] at he
      cases he
      exact ⟨rfl, h, rfl⟩
  | m + 1, v, q => by
    refine ⟨fun h => ?_, fun h => ?_⟩
    · have e1 : nX T 0 255 (.inr q) = (0, .inl (tkS T q)) := by simp only [nX]; rw [if_neg h]
      rw [bX, e1]
      show (nX T 0 255 (bX T m _ (.inl (tkS T q))).2).2 = _
      rw [bX_bad]
      rfl
    · have e1 : nX T 0 255 (.inr q) = (tkN T q, .inr (tkE T q)) := by simp only [nX]; rw [if_pos h]
      rw [bX, e1, pC]
      simp only [wX]
      by_cases c : tkK T (tkE T q) = 46
      · rw [if_pos c, if_pos c]
        obtain ⟨i1, i2⟩ := bX_pC T m (256 * v + tkN T q) (tkE T (tkE T q))
        by_cases d : nmB T (tkE T (tkE T q)) 0 255 = true
        · rw [if_pos d]
          exact i2 d
        · rw [if_neg d]
          refine ⟨fun e he => ?_, fun w p4 he => by cases he⟩
          cases he
          exact i1 d
      · rw [if_neg c, if_neg c]
        refine ⟨fun e he => ?_, fun w p4 he => by cases he⟩
        cases he
        rw [bX_bad]
        rfl
theorem bX_pAd (T : List Int) (q : Nat) : (∀ e, pAd T q = .inl e → (nX T 0 255 (bX T 3 0 (.inr q)).2).2 = .inl e) ∧ ∀ w p4, pAd T q = .inr (w, p4) → (bX T 3 0 (.inr q)).2 = .inr p4 ∧ nmB T p4 0 255 = true ∧ w = 256 * (bX T 3 0 (.inr q)).1 + tkN T p4 := by
  obtain ⟨i1, i2⟩ := bX_pC T 3 0 q
  unfold pAd
  by_cases d : nmB T q 0 255 = true
  · rw [if_pos d]
    have := i2 d
    rw [show (256 : Int) * 0 + tkN T q = tkN T q by omega] at this
    exact this
  · rw [if_neg d]
    refine ⟨fun e he => ?_, fun w p4 he => by cases he⟩
    cases he
    exact i1 d
theorem pUn_shl8 (x : Int) : pUn (ft_shl x 8) = pUn x * 256 % 4294967296 := by
  have e : BitVec.ofInt 32 (ft_shl x 8) = BitVec.ofInt 32 x <<< 8 := by
    show BitVec.ofInt 32 ((Int32.ofInt x <<< (Int32.ofInt 8 &&& 31)).toInt) = _
    rw [← ft_bvI, ft_bk, Int32.toBitVec_shiftLeft, ft_bvI]
    have e8 : ((Int32.ofInt 8 &&& 31).toBitVec.smod 32) = 8#32 := by decide
    rw [e8]
    rfl
  have h1 := congrArg BitVec.toNat e
  rw [ft_bv32, BitVec.toNat_shiftLeft, ft_bv32, Nat.shiftLeft_eq] at h1
  have := pUn_rng x
  have := pUn_rng (ft_shl x 8)
  omega
theorem ft_or8 {v z : Int} (hv : 0 ≤ v ∧ v < 16777216) (hz : 0 ≤ z ∧ z ≤ 255) : pUn (ft_or (ft_shl v 8) z) = 256 * v + z := by
  have e1 : pUn v = v := by unfold pUn; omega
  have e2 : pUn z = z := by unfold pUn; omega
  rw [pUn_or, pUn_shl8, e1, e2]
  have e3 : (v * 256 % 4294967296).toNat = v.toNat <<< 8 := by rw [Nat.shiftLeft_eq]; omega
  rw [e3, ← Nat.shiftLeft_add_eq_or_of_lt (by omega : z.toNat < 2 ^ 8), Nat.shiftLeft_eq]
  omega
theorem ft_or8i {v z : Int} (hv : 0 ≤ v ∧ v < 65536) (hz : 0 ≤ z ∧ z ≤ 255) (hi : ft_in (ft_or (ft_shl v 8) z)) : ft_or (ft_shl v 8) z = 256 * v + z := by
  have := ft_or8 (v := v) (z := z) (by omega) hz
  unfold pUn at this
  have := hi.1
  have := hi.2
  omega
theorem ft_or_in (x y : Int) : ft_in (ft_or x y) := ft_in_of _
theorem v_Mo_rb {h : ftH} {T : List Int} (hB : rdB h T) : ∀ (m k : Nat) (v : Int) (x : Nat ⊕ Nat) (g : ftH), k + m = 3 → 0 ≤ v → v < 256 ^ k → rdF h g → rdI g T x → ft_V k_Mo_readsBytes 4 [some (.inr (.inr 309)), some (.inl 3), some (.inl v), some (.inl (k : Int))] [] g (fun r h' => r = some (.inl (bX T m v x).1) ∧ rdF h h' ∧ rdI h' T (bX T m v x).2) := by
  intro m
  induction m with
  | zero =>
    intro k v x g hk h0 h1 f hx
    exact b_Mo_readsBytes_4 ⟨fun _ => ⟨rfl, f, hx⟩, fun c => absurd (by omega) c⟩
  | succ m ih =>
    intro k v x g hk h0 h1 f hx
    refine b_Mo_readsBytes_4 ⟨fun c => absurd c (by omega), fun _ => ⟨_, c_Mo_needsNumber (rdF_B f hB) hx, fun z3 g1 _ u1 n4 e4 => ?_⟩⟩
    obtain ⟨r1, f1, x1⟩ := u1
    cases r1
    have F1 := rdF_tr f f1
    have hn := nX_rng T x
    have hv : v < 65536 := by
      have : ∀ k : Nat, k ≤ 2 → (256 : Int) ^ k ≤ 65536 := by decide
      have := this k (by omega)
      omega
    rw [ft_or8i ⟨h0, hv⟩ hn (ft_or_in _ _)] at e4
    refine ⟨_, c_Mo_needsSign (rdF_B F1 hB) x1 (Or.inl rfl), fun g2 u2 => ?_⟩
    rw [inc1 (by omega), e4, bX]
    exact ih (k + 1) _ _ g2 (by omega) (by omega) (by rw [Int.pow_succ]; omega) (rdF_tr F1 u2.2.1) u2.2.2
theorem c_Mo_readsBytes {h : ftH} {T : List Int} (hB : rdB h T) {x : Nat ⊕ Nat} (hx : rdI h T x) : ft_C k_Mo_readsBytes [.inr (.inr 309), .inl 3] h (fun r h' => r = some (.inl (bX T 3 0 x).1) ∧ rdF h h' ∧ rdI h' T (bX T 3 0 x).2) :=
  ft_enter (n := 2) rfl (Nat.le_of_ble_eq_true rfl) rfl (b_Mo_readsBytes_0 (v_Mo_rb hB 3 0 0 x h (by omega) (by omega) (by omega) (rdF_rf h) hx))
