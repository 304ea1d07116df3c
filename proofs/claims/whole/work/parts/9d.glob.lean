/-! THE WHOLE STATE of both sides, and what a call does to it: bounds -/
abbrev gS : Type := ftS × List ftS × List Int × Int
def cG (h : ftH) (G : gS) : Prop := ccI h G.1 G.2.1 ∧ csI h G.1 ∧ rcI h G.1 ∧ tpC h G.2.2.1 ∧ h 0 4 = G.2.2.2
def mG (h : ftH) (G : gS) : Prop := mcI h G.1 G.2.1 ∧ flI h G.1 ∧ tpM h G.2.2.1 ∧ wdsI h ∧ h 309 42 = G.2.2.2
def gB (B : Int) (G : gS) : Prop := sOk B G.1 ∧ ∀ X ∈ G.2.1, sOk B X
theorem sOk_mono {B B' : Int} {S : ftS} (h : B ≤ B') (hs : sOk B S) : sOk B' S := ⟨hs.1, hs.2.1, hs.2.2.1, hs.2.2.2.1, hs.2.2.2.2.1, fun x hx => ⟨(hs.2.2.2.2.2 x hx).1, Int.le_trans (hs.2.2.2.2.2 x hx).2 h⟩⟩
theorem gB_mono {B B' : Int} {G : gS} (h : B ≤ B') (hs : gB B G) : gB B' G := ⟨sOk_mono h hs.1, fun X hX => sOk_mono h (hs.2 X hX)⟩
theorem gB_push {B B' : Int} {S S' : ftS} {P : List ftS} {T : List Int} {e : Int} (hb : B ≤ B') (h : gB B (S, P, T, e)) (hs : sOk B' S') : gB B' (S', (S :: P).take 8, T, e) := by
  refine ⟨hs, fun X hX => ?_⟩
  have hX := List.mem_of_mem_take hX
  rcases List.mem_cons.mp hX with rfl | hX
  · exact sOk_mono hb h.1
  · exact sOk_mono hb (h.2 X hX)
theorem len5 {c : List Int} (h : c.length = 5) : ∃ c0 c1 c2 c3 c4, c = [c0, c1, c2, c3, c4] := by
  match c, h with
  | [c0, c1, c2, c3, c4], _ => exact ⟨c0, c1, c2, c3, c4, rfl⟩
theorem all5 {c0 c1 c2 c3 c4 B : Int} (h : ∀ x ∈ [c0, c1, c2, c3, c4], 0 ≤ x ∧ x ≤ B) : (0 ≤ c0 ∧ c0 ≤ B) ∧ (0 ≤ c1 ∧ c1 ≤ B) ∧ (0 ≤ c2 ∧ c2 ≤ B) ∧ (0 ≤ c3 ∧ c3 ≤ B) ∧ (0 ≤ c4 ∧ c4 ≤ B) := ⟨h _ (by simp), h _ (by simp), h _ (by simp), h _ (by simp), h _ (by simp)⟩
theorem mk5 {c0 c1 c2 c3 c4 B : Int} (h : (0 ≤ c0 ∧ c0 ≤ B) ∧ (0 ≤ c1 ∧ c1 ≤ B) ∧ (0 ≤ c2 ∧ c2 ≤ B) ∧ (0 ≤ c3 ∧ c3 ≤ B) ∧ (0 ≤ c4 ∧ c4 ≤ B)) : [c0, c1, c2, c3, c4].length = 5 ∧ ∀ x ∈ [c0, c1, c2, c3, c4], 0 ≤ x ∧ x ≤ B := by
  refine ⟨rfl, fun x hx => ?_⟩
  simp only [List.mem_cons, List.not_mem_nil, or_false] at hx
  rcases hx with rfl | rfl | rfl | rfl | rfl
  · exact h.1
  · exact h.2.1
  · exact h.2.2.1
  · exact h.2.2.2.1
  · exact h.2.2.2.2
theorem ctEmpty_ok {n B : Int} {c : List Int} (hn : 0 ≤ n ∧ n ≤ 200) (hc : c.length = 5 ∧ ∀ x ∈ c, 0 ≤ x ∧ x ≤ B) : (ctEmpty n c).length = 5 ∧ ∀ x ∈ ctEmpty n c, 0 ≤ x ∧ x ≤ B + 300 := by
  obtain ⟨c0, c1, c2, c3, c4, rfl⟩ := len5 hc.1
  have h := all5 hc.2
  unfold ctEmpty
  simp only
  split
  · exact mk5 (by omega)
  · exact mk5 (by omega)
theorem ctPkt_ok {b : Bool} {n B : Int} {c : List Int} (hn : 0 ≤ n ∧ n ≤ 9999) (hc : c.length = 5 ∧ ∀ x ∈ c, 0 ≤ x ∧ x ≤ B) : (ctPkt b n c).length = 5 ∧ ∀ x ∈ ctPkt b n c, 0 ≤ x ∧ x ≤ B + 20000 := by
  obtain ⟨c0, c1, c2, c3, c4, rfl⟩ := len5 hc.1
  have h := all5 hc.2
  unfold ctPkt
  simp only
  split
  · exact mk5 (by omega)
  · exact mk5 (by omega)
theorem hw_ok {key room B : Int} {l : List (Int × Int)} {c : List Int} (hl : lOk l) (hr : (l.length : Int) ≤ room) (h80 : room ≤ 80) (hk : pK key) (hc : c.length = 5 ∧ ∀ x ∈ c, 0 ≤ x ∧ x ≤ B) : (lOk (hwChange key room l c).1 ∧ ((hwChange key room l c).1.length : Int) ≤ room) ∧ (hwChange key room l c).2.1.length = 5 ∧ ∀ x ∈ (hwChange key room l c).2.1, 0 ≤ x ∧ x ≤ B + 1000 := by
  obtain ⟨c0, c1, c2, c3, c4, rfl⟩ := len5 hc.1
  have h := all5 hc.2
  have hf := lOk_filter (p := fun q => !pIns key q.1) hl
  have hle := List.length_filter_le (fun q => !pIns key q.1) l
  unfold hwChange
  simp only
  split
  · split
    · next c1' c2' =>
      have hne : ∀ q ∈ l.filter (fun q => !pIns key q.1), q.1 ≠ key := fun q hq e => by
        have := (List.mem_filter.mp hq).2
        rw [e] at this
        have hp : pIns key key = true := by
          rw [pIns_iff]
          have : 0 < pSz (key % 64) := by
            unfold pSz
            exact Int.pow_pos (by omega)
          omega
        rw [hp] at this
        cases this
      refine ⟨⟨insK_ok hk ⟨by omega, by omega⟩ _ hf, ?_⟩, mk5 (by omega)⟩
      rw [insK_len hne]
      omega
    · have he := ctEmpty_ok (n := ((l.filter (fun q => !pIns key q.1)).length : Int)) (B := B + 200) (by omega) (mk5 (c0 := c0) (c1 := c1) (c2 := c2 + ((l.length : Int) - (l.filter (fun q => !pIns key q.1)).length)) (c3 := c3 + 1) (c4 := c4) (B := B + 200) (by omega))
      refine ⟨⟨lOk_nil, by simp; omega⟩, he.1, fun x hx => by have := he.2 x hx; omega⟩
  · exact ⟨⟨hf, by simp only; omega⟩, mk5 (by omega)⟩
theorem kOf_ok {v l : Int} (h : (0 ≤ l ∧ l ≤ 32) ∧ pUn v % pSz l = 0) : pK (kOf v l) := by
  have hu := pUn_rng v
  unfold kOf
  refine ⟨⟨by omega, by omega⟩, by omega, ?_⟩
  rw [show (64 * pUn v + l) / 64 = pUn v by omega, show (64 * pUn v + l) % 64 = l by omega]
  exact h.2
theorem insK_le {k v : Int} : ∀ (l : List (Int × Int)), (insK k v l).length ≤ l.length + 1
  | [] => by simp [insK]
  | q :: l => by
    have := insK_le (k := k) (v := v) l
    unfold insK
    (repeat' split) <;> simp only [List.length_cons] <;> omega
theorem aAdd_ok {v l x B : Int} {S S' : ftS} (hok : sOk B S) (h : (aAdd v l x S).2 = some S') : sOk (B + 1000) S' := by
  unfold aAdd at h
  split at h
  · cases h
  next c0 =>
  split at h
  · cases h
  split at h
  · cases h
  next c2 =>
  cases h
  have hp : (0 ≤ l ∧ l ≤ 32) ∧ pUn v % pSz l = 0 := by
    by_cases q : (0 ≤ l ∧ l ≤ 32) ∧ pUn v % pSz l = 0
    · exact q
    · exact absurd (Or.inl q) c0
  have hx : 0 ≤ x ∧ x ≤ 15 := by
    by_cases q : 0 ≤ x ∧ x ≤ 15
    · exact q
    · exact absurd (Or.inr q) c0
  have hk := kOf_ok hp
  have hw := hw_ok (key := kOf v l) (room := 2 * S.1) (B := B) hok.2.2.1.1 hok.2.2.1.2 (by have := hok.1; omega) hk hok.2.2.2.2
  refine ⟨hok.1, ⟨insK_ok hk ⟨hx.1, by omega⟩ _ hok.2.1.1, fun q hq => ?_, ?_⟩, hw.1, hok.2.2.2.1, hw.2⟩
  · rcases insK_mem _ q hq with rfl | hq
    · exact hx.2
    · exact hok.2.1.2.1 q hq
  · simp only
    by_cases q : ∀ r ∈ S.2.1, r.1 ≠ kOf v l
    · have := insK_le (k := kOf v l) (v := x) S.2.1
      have : ¬ 60 ≤ S.2.1.length := fun z => c2 ⟨q, z⟩
      omega
    · have : ∃ r ∈ S.2.1, r.1 = kOf v l := by
        apply Classical.byContradiction
        intro z
        exact q (fun r hr e => z ⟨r, hr, e⟩)
      rw [insK_len2 hok.2.1.1.2 this]
      exact hok.2.1.2.2
theorem aRem_ok {v l B : Int} {S S' : ftS} (hok : sOk B S) (h : (aRem v l S).2 = some S') : sOk (B + 1000) S' := by
  unfold aRem at h
  split at h
  · cases h
  next c0 =>
  split at h
  · cases h
  cases h
  have hp : (0 ≤ l ∧ l ≤ 32) ∧ pUn v % pSz l = 0 := by
    by_cases q : (0 ≤ l ∧ l ≤ 32) ∧ pUn v % pSz l = 0
    · exact q
    · exact absurd q c0
  have hw := hw_ok (key := kOf v l) (room := 2 * S.1) (B := B) hok.2.2.1.1 hok.2.2.1.2 (by have := hok.1; omega) (kOf_ok hp) hok.2.2.2.2
  exact ⟨hok.1, ⟨lOk_filter hok.2.1.1, fun q hq => hok.2.1.2.1 q (List.mem_filter.mp hq).1, Nat.le_trans (List.length_filter_le _ _) hok.2.1.2.2⟩, hw.1, hok.2.2.2.1, hw.2⟩
theorem aCap_ok {n B : Int} {S S' : ftS} (hok : sOk B S) (h : (aCap n S).2 = some S') : sOk (B + 1000) S' ∧ S'.2.1 = S.2.1 := by
  unfold aCap at h
  have h8 := hok.1
  have hh := hok.2.2.1.2
  split at h
  · cases h
  next c0 =>
  split at h
  · next c1 =>
    cases h
    exact ⟨⟨by show 1 ≤ n ∧ n ≤ 40; omega, hok.2.1, ⟨hok.2.2.1.1, c1⟩, hok.2.2.2.1, hok.2.2.2.2.1, fun x hx => by have := hok.2.2.2.2.2 x hx; omega⟩, rfl⟩
  · cases h
    have he := ctEmpty_ok (n := (S.2.2.1.length : Int)) (B := B) (by omega) hok.2.2.2.2
    exact ⟨⟨by show 1 ≤ n ∧ n ≤ 40; omega, hok.2.1, ⟨lOk_nil, by show ((0 : Nat) : Int) ≤ 2 * n; omega⟩, hok.2.2.2.1, he.1, fun x hx => by have := he.2 x hx; omega⟩, rfl⟩
theorem aClr_ok {B : Int} {S S' : ftS} (hok : sOk B S) (h : (aClr S).2 = some S') : sOk (B + 1000) S' ∧ ∃ H c, S' = (S.1, S.2.1, H, S.2.2.2.1, c) := by
  unfold aClr at h
  have h8 := hok.1
  have hh := hok.2.2.1.2
  split at h
  · cases h
  cases h
  have he := ctEmpty_ok (n := (S.2.2.1.length : Int)) (B := B) (by omega) hok.2.2.2.2
  exact ⟨⟨hok.1, hok.2.1, ⟨lOk_nil, by show ((0 : Nat) : Int) ≤ 2 * S.1; omega⟩, hok.2.2.2.1, he.1, fun x hx => by have := he.2 x hx; omega⟩, _, _, rfl⟩
theorem aAge_ok {B : Int} {S S' : ftS} (hok : sOk B S) (h : (aAge S).2 = some S') : sOk (B + 1000) S' ∧ S'.2.1 = S.2.1 := by
  unfold aAge at h
  split at h
  · cases h
  cases h
  exact ⟨⟨hok.1, hok.2.1, hok.2.2.1, logHalf_ok hok.2.2.2.1, hok.2.2.2.2.1, fun x hx => by have := hok.2.2.2.2.2 x hx; omega⟩, rfl⟩
theorem isPkt_ok {a n B : Int} {S S' : ftS} (hok : sOk B S) (ha : 0 ≤ a ∧ a < 4294967296) (hn : 1 ≤ n ∧ n ≤ 9999) (h : isPkt a n S S') : sOk (B + 20000) S' ∧ S'.2.1 = S.2.1 := by
  obtain ⟨g, hg, rfl⟩ := h
  have hc := ctPkt_ok (b := ansB S.2.2.1 a) (n := n) (B := B) (by omega) hok.2.2.2.2
  exact ⟨⟨hok.1, hok.2.1, hok.2.2.1, isSee_ok hok.2.2.2.1 ha ⟨hn.1, by omega⟩ hg, hc⟩, rfl⟩
theorem aSync_ok {lim B : Int} {S S' : ftS} (hok : sOk B S) (h : (aSync lim S).2 = some S') : sOk (B + 1000) S' := by
  unfold aSync at h
  split at h
  · cases h
  split at h
  · cases h
  cases h
  exact sOk_mono (by omega) (sN_ok hok (n := min lim.toNat (sP S).length) (by omega))
theorem ldS_ok {x : Int × List (Int × Int) × List (Int × Int)} {B : Int} (hB : 0 ≤ B) (hc : 1 ≤ x.1 ∧ x.1 ≤ 40) (hq : qOk x.2.1) (hg : gOk x.2.2) : sOk B (ldS x) := by
  have hin := insF_ok hq
  refine ⟨hc, ⟨hin.1, fun q hq' => (hq.1 q ((hin.2.2 q).mp hq')).2.2, by show (insF x.2.1).length ≤ 60; rw [hin.2.1]; exact hq.2.2⟩, ⟨lOk_nil, by show ((0 : Nat) : Int) ≤ 2 * x.1; omega⟩, hg, rfl, fun y hy => ?_⟩
  have : y = 0 := by
    simp only [ldS, List.mem_cons, List.not_mem_nil, or_false, or_self] at hy
    exact hy
  omega
