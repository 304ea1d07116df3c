/-! READING THE TAPE, pure; and the class -/
def nmB (T : List Int) (p : Nat) (lo hi : Int) : Bool := decide (tkK T p = 2) && (decide (lo ≤ tkN T p) && decide (tkN T p ≤ hi))
theorem nmB_iff {T : List Int} {p : Nat} {lo hi : Int} : nmB T p lo hi = true ↔ tkK T p = 2 ∧ lo ≤ tkN T p ∧ tkN T p ≤ hi := by simp [nmB]
/-- after a byte of an address at p, with the value v so far: m more -/
def pC (T : List Int) : Nat → Int → Nat → Nat ⊕ (Int × Nat)
  | 0, v, p => .inr (v, p)
  | m + 1, v, p => if tkK T (tkE T p) = 46 then (if nmB T (tkE T (tkE T p)) 0 255 = true then pC T m (256 * v + tkN T (tkE T (tkE T p))) (tkE T (tkE T p)) else .inl (tkS T (tkE T (tkE T p)))) else .inl (tkS T (tkE T p))
def pAd (T : List Int) (p : Nat) : Nat ⊕ (Int × Nat) := if nmB T p 0 255 = true then pC T 3 (tkN T p) p else .inl (tkS T p)
/-- a route, behind its address -/
def pRb (T : List Int) (Q : List (Int × Int)) (v : Int) (p : Nat) : Nat ⊕ (List (Int × Int) × Nat) :=
  if tkK T (tkE T p) = 47 then
    (if (nmB T (tkE T (tkE T p)) 0 32 = true ∧ v % pSz (tkN T (tkE T (tkE T p))) = 0) ∧ ¬ hasK Q (64 * v + tkN T (tkE T (tkE T p))) = true then
      (if tkK T (tkE T (tkE T (tkE T p))) = 5 then
        (if nmB T (tkE T (tkE T (tkE T (tkE T p)))) 0 15 = true then
          (if tkK T (tkE T (tkE T (tkE T (tkE T (tkE T p))))) = 59 then .inr (Q ++ [(64 * v + tkN T (tkE T (tkE T p)), tkN T (tkE T (tkE T (tkE T (tkE T p)))))], tkE T (tkE T (tkE T (tkE T (tkE T (tkE T p)))))) else .inl (tkS T (tkE T (tkE T (tkE T (tkE T (tkE T p)))))))
        else .inl (tkS T (tkE T (tkE T (tkE T (tkE T p))))))
      else .inl (tkS T (tkE T (tkE T (tkE T p)))))
    else .inl (tkS T (tkE T (tkE T p))))
  else .inl (tkS T (tkE T p))
def pRt (T : List Int) (Q : List (Int × Int)) (p : Nat) : Nat ⊕ (List (Int × Int) × Nat) := if 60 ≤ Q.length then .inl (tkS T p) else match pAd T (tkE T p) with
  | .inl e => .inl e
  | .inr q => pRb T Q q.1 q.2
def pSb (T : List Int) (G : List (Int × Int)) (v : Int) (p : Nat) : Nat ⊕ (List (Int × Int) × Nat) :=
  if hasK G v = true then .inl (tkS T p) else
  if tkK T (tkE T p) = 7 then
    (if nmB T (tkE T (tkE T p)) 1 999 = true then
      (if tkK T (tkE T (tkE T (tkE T p))) = 59 then .inr (G ++ [(v, tkN T (tkE T (tkE T p)))], tkE T (tkE T (tkE T (tkE T p)))) else .inl (tkS T (tkE T (tkE T (tkE T p)))))
    else .inl (tkS T (tkE T (tkE T p))))
  else .inl (tkS T (tkE T p))
def pSe (T : List Int) (G : List (Int × Int)) (p : Nat) : Nat ⊕ (List (Int × Int) × Nat) := if 40 ≤ G.length then .inl (tkS T p) else match pAd T (tkE T p) with
  | .inl e => .inl e
  | .inr q => pSb T G q.1 q.2
def pRs (T : List Int) : Nat → List (Int × Int) → Nat → Nat ⊕ (List (Int × Int) × Nat)
  | 0, _, _ => .inl 0
  | n + 1, Q, p => if tkK T p = 4 then (match pRt T Q p with
    | .inl e => .inl e
    | .inr q => pRs T n q.1 q.2) else .inr (Q, p)
def pSs (T : List Int) : Nat → List (Int × Int) → Nat → Nat ⊕ (List (Int × Int) × Nat)
  | 0, _, _ => .inl 0
  | n + 1, G, p => if tkK T p = 6 then (match pSe T G p with
    | .inl e => .inl e
    | .inr q => pSs T n q.1 q.2) else .inr (G, p)
def pEnd (T : List Int) (c : Int) (Q G : List (Int × Int)) (p : Nat) : Nat ⊕ (Int × List (Int × Int) × List (Int × Int)) := if tkK T p = 0 then .inr (c, Q, G) else .inl (tkS T p)
/-- the whole text -/
def pLd (T : List Int) : Nat ⊕ (Int × List (Int × Int) × List (Int × Int)) :=
  if tkK T 0 = 3 then
    (if nmB T (tkE T 0) 1 40 = true then
      (if tkK T (tkE T (tkE T 0)) = 59 then
        (match pRs T 61 [] (tkE T (tkE T (tkE T 0))) with
          | .inl e => .inl e
          | .inr q => match pSs T 41 [] q.2 with
            | .inl e => .inl e
            | .inr g => pEnd T (tkN T (tkE T 0)) q.1 g.1 g.2)
      else .inl (tkS T (tkE T (tkE T 0))))
    else .inl (tkS T (tkE T 0)))
  else .inl (tkS T 0)
theorem tkE_le2 {T : List Int} {p : Nat} (h : p ≤ T.length) : tkE T p ≤ T.length := (tkE_le h).2
/-- addresses: the value's range -/
theorem pC_rng {T : List Int} : ∀ (m : Nat) (v : Int) (p : Nat) {w : Int} {q : Nat}, m ≤ 3 → 0 ≤ v → v < 256 ^ (4 - m) → p ≤ T.length → pC T m v p = .inr (w, q) → (0 ≤ w ∧ w < 4294967296) ∧ q ≤ T.length
  | 0, v, p, w, q, _, h1, h2, h3, h => by
    rw [pC] at h
    cases h
    exact ⟨⟨h1, by simpa using h2⟩, h3⟩
  | m + 1, v, p, w, q, hm, h1, h2, h3, h => by
    rw [pC] at h
    split at h
    · split at h
      · next c =>
        have hn := nmB_iff.mp c
        refine pC_rng m _ _ (by omega) (by omega) ?_ (tkE_le2 (tkE_le2 h3)) h
        rw [show 4 - m = (4 - (m + 1)) + 1 by omega, Int.pow_succ]
        omega
      · cases h
    · cases h
theorem pAd_rng {T : List Int} {p : Nat} {w : Int} {q : Nat} (hp : p ≤ T.length) (h : pAd T p = .inr (w, q)) : (0 ≤ w ∧ w < 4294967296) ∧ q ≤ T.length := by
  unfold pAd at h
  split at h
  · next c =>
    have hn := nmB_iff.mp c
    exact pC_rng 3 _ _ (by omega) (by omega) (by omega) hp h
  · cases h
theorem ft_by8 {v n : Int} (hv : 0 ≤ v ∧ v < 16777216) (hn : 0 ≤ n ∧ n < 256) : ft_orL (ft_shlL v 8) n = 256 * v + n := by
  have e : ft_shlL v 8 = v * 256 := ft_shlL_eq hv.1 (by decide) (by decide) (by show v * 256 < _; omega)
  rw [e, ft_orL_nat (by omega) ⟨by omega, by omega⟩ hn.1 ⟨by omega, by omega⟩]
  have e2 : (v * 256).toNat = v.toNat <<< 8 := by rw [Nat.shiftLeft_eq]; omega
  rw [e2, ← Nat.shiftLeft_add_eq_or_of_lt (by omega : n.toNat < 2 ^ 8), Nat.shiftLeft_eq]
  omega
def taG (h h' : ftH) : Prop := (∀ c, c ≠ 113 → h' c = h c) ∧ ∀ j, j ≤ 1 → h' 113 j = h 113 j
theorem taG_f {h h' : ftH} (f : taF h h') : taG h h' := ⟨f.1, fun j hj => f.2 j (by omega)⟩
theorem taG_tr {h g k : ftH} (a : taG h g) (b : taG g k) : taG h k := ⟨fun c hc => by rw [b.1 c hc, a.1 c hc], fun j hj => by rw [b.2 j hj, a.2 j hj]⟩
theorem taG_tp {h h' : ftH} {T : List Int} (f : taG h h') (hT : tpC h T) : tpC h' T := ⟨by rw [f.2 1 (by omega)]; exact hT.1, hT.2.1, fun j x hx => by rw [f.1 114 (by omega)]; exact hT.2.2 j x hx⟩
theorem tcI_6 {h h' : ftH} {T : List Int} {p : Nat} {z : Int} (hc : tcI h T p) (e : h' = ft_hs h 113 6 z) : tcI h' T p := by
  unfold tcI
  rw [e, ft_hs_j (by omega), ft_hs_j (by omega), ft_hs_j (by omega), ft_hs_j (by omega)]
  exact hc
theorem taG_6 {h h' : ftH} {z : Int} (e : h' = ft_hs h 113 6 z) : taG h h' := ⟨fun c hc => by rw [e, ft_hs_ne c hc], fun j hj => by rw [e, ft_hs_j (by omega)]⟩
/-- what reading an address leaves -/
def adR (T : List Int) (x : Nat ⊕ (Int × Nat)) (h : ftH) (r : Option ftV) (h' : ftH) : Prop := taG h h' ∧ ((∃ e : Nat, x = .inl e ∧ r = some (.inl 0) ∧ h' 113 2 = (e : Int)) ∨ ∃ v q, x = .inr (v, q) ∧ r = some (.inl 1) ∧ tcI h' T q ∧ h' 113 6 = v)
theorem v_Ta_adr {h : ftH} {T : List Int} (hT : tpC h T) : ∀ (m i : Nat) (v : Int) (p : Nat) (g : ftH), i + m = 4 → 1 ≤ i → p ≤ T.length → 0 ≤ v → v < 256 ^ i → taG h g → tcI g T p → g 113 6 = v → ft_V k_Ta_readAddress 7 [some (.inr (.inr 113)), some (.inl (i : Int))] [] g (adR T (pC T m v p) h) := by
  intro m
  induction m with
  | zero =>
    intro i v p g hm hi hp h0 hv f hc e6
    refine b_Ta_readAddress_7 ⟨fun _ => ⟨f, Or.inr ⟨v, p, rfl, rfl, hc, e6⟩⟩, fun c => absurd (by omega) c⟩
  | succ m ih =>
    intro i v p g hm hi hp h0 hv f hc e6
    have hT' := taG_tp f hT
    have hp1 := tkE_le2 hp
    refine b_Ta_readAddress_7 ⟨fun c => absurd c (by omega), fun _ => ⟨fun c => absurd c (by omega), fun _ => ⟨_, c_Ta_step hT' hc.2.1 hp1, fun g1 w1 => ?_⟩⟩⟩
    obtain ⟨-, f1, c1⟩ := w1
    have hT1 := taG_tp (taG_tr f (taG_f f1)) hT
    rw [pC, c1.2.2.1]
    refine ⟨fun d => ⟨_, c_Ta_step hT1 c1.2.1 (tkE_le2 hp1), fun g2 w2 => ?_⟩, fun d => ?_⟩
    · obtain ⟨-, f2, c2⟩ := w2
      have fg : taG h g2 := taG_tr f (taG_tr (taG_f f1) (taG_f f2))
      rw [if_pos d, c2.2.2.1]
      refine ⟨fun n => ?_, fun n => ?_⟩
      · intro h4 e4
        rw [c2.2.2.2 n.1] at n e4
        have nb : nmB T (tkE T (tkE T p)) 0 255 = true := nmB_iff.mpr n
        have hvb : v < 16777216 := by
          have : ∀ k : Nat, k ≤ 3 → (256 : Int) ^ k ≤ 16777216 := by decide
          have := this i (by omega)
          omega
        rw [f2.2 6 (by omega), f1.2 6 (by omega), e6, ft_by8 ⟨h0, hvb⟩ ⟨n.2.1, by omega⟩] at e4
        rw [if_pos nb, inc1 (by omega)]
        refine ih (i + 1) _ _ h4 (by omega) (by omega) (tkE_le2 hp1) (by omega) ?_ (taG_tr fg (taG_6 e4)) (tcI_6 c2 e4) (by rw [e4, ft_hs_same])
        rw [Int.pow_succ]
        omega
      · have nb : ¬ nmB T (tkE T (tkE T p)) 0 255 = true := fun q => by
          have q := nmB_iff.mp q
          rw [c2.2.2.2 q.1] at n
          exact n q
        rw [if_neg nb]
        exact ⟨fg, Or.inl ⟨_, rfl, rfl, c2.1⟩⟩
    · rw [if_neg d]
      exact ⟨taG_tr f (taG_f f1), Or.inl ⟨_, rfl, rfl, c1.1⟩⟩
theorem c_Ta_readAddress {h : ftH} {T : List Int} (hT : tpC h T) {p : Nat} (hp : p ≤ T.length) (hc : tcI h T p) : ft_C k_Ta_readAddress [.inr (.inr 113)] h (adR T (pAd T p) h) := by
  refine ft_enter (n := 1) rfl (Nat.le_of_ble_eq_true rfl) rfl (b_Ta_readAddress_0 (fun h1 e1 => ?_))
  have c1 := tcI_6 hc e1
  have g1 : taG h h1 := taG_6 e1
  unfold pAd
  refine b_Ta_readAddress_7 ⟨fun c => absurd c (by omega), fun _ => ⟨fun _ => ?_, fun c => absurd (by omega) c⟩⟩
  rw [c1.2.2.1]
  refine ⟨fun n => ?_, fun n => ?_⟩
  · intro h2 e2
    rw [c1.2.2.2 n.1] at n e2
    rw [show h1 113 6 = 0 by rw [e1, ft_hs_same], ft_by8 ⟨by omega, by omega⟩ ⟨n.2.1, by omega⟩] at e2
    rw [if_pos (nmB_iff.mpr n)]
    have := v_Ta_adr hT 3 1 (tkN T p) p h2 (by omega) (by omega) hp n.2.1 (by omega) (taG_tr g1 (taG_6 e2)) (tcI_6 c1 e2) (by rw [e2, ft_hs_same]; omega)
    exact this
  · have nb : ¬ nmB T p 0 255 = true := fun q => by
      have q := nmB_iff.mp q
      rw [c1.2.2.2 q.1] at n
      exact n q
    rw [if_neg nb]
    exact ⟨g1, Or.inl ⟨_, rfl, rfl, c1.1⟩⟩
