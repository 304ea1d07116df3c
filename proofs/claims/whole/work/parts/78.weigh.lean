/-! PURE: hits; how entries lie in their order -/
def hitI (E G : List (Int × Int)) (i : Nat) : Int := (G.map (fun q => if lmI E q.1 = (i : Int) then q.2 else 0)).sum
def allH (E G : List (Int × Int)) : Int := (G.map (fun q => if 0 ≤ lmI E q.1 then q.2 else 0)).sum
theorem hit_all (E : List (Int × Int)) : ∀ (G : List (Int × Int)), sm (hitI E G) E.length = allH E G
  | [] => by rw [sm_zero]; rfl; intro j _; rfl
  | q :: G => by
    have h1 := hit_all E G
    have h2 : sm (hitI E (q :: G)) E.length = sm (fun i => if lmI E q.1 = (i : Int) then q.2 else 0) E.length + sm (hitI E G) E.length := by
      rw [← sm_add]
      refine sm_ext _ (fun i _ => ?_)
      unfold hitI
      rw [List.map_cons, List.sum_cons]
    have h3 : allH E (q :: G) = (if 0 ≤ lmI E q.1 then q.2 else 0) + allH E G := by
      unfold allH
      rw [List.map_cons, List.sum_cons]
    rw [h2, h3, h1]
    congr 1
    by_cases c : 0 ≤ lmI E q.1
    · rw [if_pos c]
      obtain ⟨p, hp⟩ := Int.eq_ofNat_of_zero_le c
      rw [hp, sm_single E.length (lmI_in hp).1 (fun j _ hne => if_neg (by omega)), if_pos rfl]
    · rw [if_neg c]
      exact sm_zero _ (fun j _ => if_neg (by omega))
theorem hit_nn {E G : List (Int × Int)} (hG : gOk G) (i : Nat) : 0 ≤ hitI E G i := by
  have : ∀ l : List (Int × Int), (∀ q ∈ l, 0 ≤ q.2) → 0 ≤ (l.map (fun q => if lmI E q.1 = (i : Int) then q.2 else 0)).sum := by
    intro l
    induction l with
    | nil => intro _; exact Int.le_refl 0
    | cons q l ih =>
      intro h
      have h1 := ih (fun x hx => h x (List.mem_cons_of_mem _ hx))
      have h2 := h q List.mem_cons_self
      rw [List.map_cons, List.sum_cons]
      split <;> omega
  exact this G (fun q hq => by have := (hG.2 q hq).2; omega)
theorem allH_le {E G : List (Int × Int)} (hG : gOk G) : 0 ≤ allH E G ∧ allH E G ≤ 39999960 := by
  have h1 := hop_le (A := fun x => decide (0 ≤ lmI E x)) (l := G) (fun q hq => (hG.2 q hq).2)
  simp only [decide_eq_true_eq] at h1
  have h2 := hG.1
  unfold allH
  omega
theorem sum_perm {l l' : List Int} (h : l.Perm l') : l.sum = l'.sum := by
  induction h with
  | nil => rfl
  | cons x _ ih => rw [List.sum_cons, List.sum_cons, ih]
  | swap x y l => simp only [List.sum_cons]; omega
  | trans _ _ ih1 ih2 => exact ih1.trans ih2
theorem nodup_sum {ht : Nat → Int} (hn : ∀ i, 0 ≤ ht i) : ∀ (n : Nat) (l : List Nat), l.Nodup → (∀ x ∈ l, x < n) → (l.map ht).sum ≤ sm ht n
  | 0, l, _, h => by
    cases l with
    | nil => exact Int.le_refl 0
    | cons x l => exact absurd (h x List.mem_cons_self) (Nat.not_lt_zero x)
  | n + 1, l, hd, h => by
    have h1 := nodup_sum hn n (l.erase n) (hd.erase n) (fun x hx => by
      have := (hd.mem_erase_iff).mp hx
      have := h x this.2
      omega)
    have h2 := hn n
    rw [sm]
    by_cases c : n ∈ l
    · have h3 := sum_perm ((List.perm_cons_erase c).map ht)
      rw [h3, List.map_cons, List.sum_cons]
      omega
    · rw [List.erase_of_not_mem c] at h1
      omega
theorem hD_cap {ht : Nat → Int} (hn : ∀ i, 0 ≤ ht i) {n : Nat} {D : List (Nat × Bool)} {l : List Nat} (he : D.map (fun x => x.1) = l) (hl : l.Nodup) (h : ∀ x ∈ l, x < n) : hD ht D ≤ sm ht n ∧ lD ht D ≤ sm ht n := by
  have h1 := hl_sum ht D
  have h2 := hD_nn hn D
  rw [he] at h1
  have h3 := nodup_sum hn n l hl h
  omega
theorem cF_empty {n : Nat} {par : Nat → Int} : ∀ {m : Nat} {e : Int}, m ≤ n → (∀ j, n - m ≤ j → j < n → par j ≠ e) → dom n par m e = [] ∧ ∀ k p D, cF n par m e k p D ↔ p = 0 ∧ D = []
  | 0, e, _, _ => ⟨rfl, fun k p D => Iff.rfl⟩
  | m + 1, e, hm, h => by
    have c := h (n - (m + 1)) (Nat.le_refl _) (by omega)
    have h1 := cF_empty (n := n) (par := par) (m := m) (e := e) (by omega) (fun j j1 j2 => h j (by omega) j2)
    refine ⟨by rw [dom, if_neg c]; exact h1.1, fun k p D => ?_⟩
    rw [cF_miss c]
    exact h1.2 k p D
theorem dep_up {E : List (Int × Int)} (hE : lOk E) {q : Nat} : ∀ r, q < r → r < E.length → pIn (kAt E q) (kS E r) → dep E q + 1 ≤ dep E r := by
  intro r
  induction r using Nat.strongRecOn with
  | _ r ih =>
    intro h1 h2 h3
    have hd := dep_par hE h2
    by_cases c : parI E r < 0
    · exact absurd h3 (par_no h2 c q h1)
    · obtain ⟨p, hp⟩ := Int.eq_ofNat_of_zero_le (show 0 ≤ parI E r by omega)
      obtain ⟨a1, a2, a3⟩ := par_in h2 hp
      have e := hd.2 p hp
      rcases Nat.lt_trichotomy p q with x | x | x
      · exact absurd h3 (a3 q x h1)
      · subst x; omega
      · have := ih p a1 x (by omega) (in_up hE x (by omega) h3 a2 (in_self hE (by omega)))
        omega
theorem dep_geo {E : List (Int × Int)} (hE : lOk E) {i j : Nat} (h1 : parI E j < i) (h2 : i < j) (hj : j < E.length) : dep E j ≤ dep E i ∧ (dep E i = dep E j → parI E i = parI E j) := by
  have hi : i < E.length := by omega
  have di := dep_par hE hi
  have dj := dep_par hE hj
  have ri := parI_rng E i
  have rj := parI_rng E j
  by_cases c : parI E j < 0
  · rw [dj.1 c]
    refine ⟨Nat.zero_le _, fun q => ?_⟩
    by_cases d : parI E i < 0
    · omega
    · obtain ⟨p, hp⟩ := Int.eq_ofNat_of_zero_le (show 0 ≤ parI E i by omega)
      have := di.2 p hp
      omega
  · obtain ⟨q, hq⟩ := Int.eq_ofNat_of_zero_le (show 0 ≤ parI E j by omega)
    obtain ⟨a1, a2, a3⟩ := par_in hj hq
    have ej := dj.2 q hq
    have hqi : q < i := by omega
    have hin : pIn (kAt E q) (kS E i) := by
      have s1 := kS_le hE (show q ≤ i by omega) hi
      have s2 := kS_le hE (show i ≤ j by omega) hj
      have s3 := kIn_iff.mp a2
      exact kIn_iff.mpr ⟨s1, by omega⟩
    by_cases d : parI E i < 0
    · exact absurd hin (par_no hi d q hqi)
    · obtain ⟨p, hp⟩ := Int.eq_ofNat_of_zero_le (show 0 ≤ parI E i by omega)
      obtain ⟨b1, b2, b3⟩ := par_in hi hp
      have ei := di.2 p hp
      rcases Nat.lt_trichotomy p q with x | x | x
      · exact absurd hin (b3 q x hqi)
      · subst x
        exact ⟨by omega, fun _ => by omega⟩
      · have := dep_up hE p x (by omega) (in_up hE x (by omega) hin b2 (in_self hE (by omega)))
        exact ⟨by omega, fun y => by omega⟩
/-! the class weighs -/
def Rw (h : ftH) (E : List (Int × Int)) (ht : Nat → Int) (m : Nat) (e : Int) (d : Nat) : Prop := h 286 d = ((dom E.length (parI E) m e).length : Int) ∧ ∀ k, k ≤ 1 → ∀ p, p ≤ (dom E.length (parI E) m e).length → bst ht (cF E.length (parI E) m e k p) (h (149 + (2 * d + k)) p) (h (218 + (2 * d + k)) p)
def zrow (h : ftH) (d : Nat) : Prop := h 286 d = 0 ∧ ∀ k, k ≤ 1 → h (149 + (2 * d + k)) 0 = 0 ∧ h (218 + (2 * d + k)) 0 = 0
theorem Rw_zero {h : ftH} {E : List (Int × Int)} {ht : Nat → Int} {m : Nat} {e : Int} {d : Nat} (hm : m ≤ E.length) (hz : zrow h d) (hno : ∀ j, E.length - m ≤ j → j < E.length → parI E j ≠ e) : Rw h E ht m e d := by
  obtain ⟨h1, h2⟩ := cF_empty hm hno
  unfold Rw
  rw [h1]
  refine ⟨hz.1, fun k hk p hp => ?_⟩
  have : p = 0 := by simpa using hp
  subst this
  rw [(hz.2 k hk).1, (hz.2 k hk).2]
  exact Or.inr ⟨[], (h2 k 0 []).mpr ⟨rfl, rfl⟩, rfl, rfl, fun D' q => by rw [((h2 k 0 D').mp q).2]; exact Or.inr ⟨rfl, Nat.le_refl _⟩⟩
def chI (h : ftH) (E : List (Int × Int)) (ht : Nat → Int) (m : Nat) : Prop := (∀ j, E.length - m ≤ j → j < E.length → parI E j < ((E.length - m : Nat) : Int) → Rw h E ht m (parI E j) (dep E j)) ∧ ∀ d, d < 34 → (∀ j, E.length - m ≤ j → j < E.length → parI E j < ((E.length - m : Nat) : Int) → dep E j ≠ d) → zrow h d
theorem v_Ch_empty {d : Nat} (hd : d < 34) {h0 : ftH} {R : Option ftV → ftH → Prop} (hk : ∀ h : ftH, (∀ k, k ≤ 1 → h (149 + (2 * d + k)) 0 = 0 ∧ h (218 + (2 * d + k)) 0 = 0) → (∀ c, ¬ (149 + 2 * d ≤ c ∧ c ≤ 149 + (2 * d + 1)) → ¬ (218 + 2 * d ≤ c ∧ c ≤ 218 + (2 * d + 1)) → h c = h0 c) → R none h) :
    ∀ (m y : Nat) (h : ftH), y + m = 2 → (∀ k, k < y → h (149 + (2 * d + k)) 0 = 0 ∧ h (218 + (2 * d + k)) 0 = 0) → (∀ c, ¬ (149 + 2 * d ≤ c ∧ c ≤ 149 + (2 * d + 1)) → ¬ (218 + 2 * d ≤ c ∧ c ≤ 218 + (2 * d + 1)) → h c = h0 c) → ft_V k_Ch_emptyRows 11 [some (.inr (.inr 143)), some (.inl (d : Int)), some (.inl ((2 * d + y : Nat) : Int))] [] h R := by
  have e2 : ft_add (ft_mul 2 (d : Int)) 1 = ((2 * d + 1 : Nat) : Int) := by
    rw [ft_mul_eq ⟨by omega, by omega⟩, ft_add_eq ⟨by omega, by omega⟩]
    push_cast
    rfl
  intro m
  induction m with
  | zero =>
    intro y h hm f1 f2
    refine b_Ch_emptyRows_11 ⟨fun _ => hk h (fun k hk' => f1 k (by omega)) f2, fun c => absurd (by rw [e2]; omega) c⟩
  | succ m ih =>
    intro y h hm f1 f2
    have ll := ln_rows (2 * d + y) (by omega)
    refine b_Ch_emptyRows_11 ?_
    rw [e2, Int.toNat_natCast, show (0 : Int).toNat = 0 from rfl, inc1 (by omega)]
    clear e2
    refine ⟨fun c => absurd c (by omega), fun _ => ⟨⟨by omega, by omega⟩, ⟨by omega, by omega⟩, fun h1 e1 => ⟨⟨by omega, by omega⟩, ⟨by omega, by omega⟩, fun h2 e2 => ?_⟩⟩⟩
    have x1 : h2 (149 + (2 * d + y)) 0 = 0 := by rw [e2, ft_hs_ne _ (by omega), e1, ft_hs_same]
    have x2 : h2 (218 + (2 * d + y)) 0 = 0 := by rw [e2, ft_hs_same]
    have x3 : ∀ c, c ≠ 149 + (2 * d + y) → c ≠ 218 + (2 * d + y) → h2 c = h c := fun c c1 c2 => by rw [e2, ft_hs_ne c c2, e1, ft_hs_ne c c1]
    have := ih (y + 1) h2 (by omega) (fun k hk' => ?_) (fun c c1 c2 => by rw [x3 c (by omega) (by omega), f2 c c1 c2])
    · exact this
    · by_cases q : k = y
      · rw [q]; exact ⟨x1, x2⟩
      · rw [x3 _ (by omega) (by omega), x3 _ (by omega) (by omega)]
        exact f1 k (by omega)
theorem c_Ch_empty {d : Nat} (hd : d < 34) {h : ftH} : ft_C k_Ch_emptyRows [.inr (.inr 143), .inl (d : Int)] h (fun r h' => r = none ∧ zrow h' d ∧ (∀ j, j ≠ d → h' 286 j = h 286 j) ∧ ∀ c, c ≠ 286 → ¬ (149 + 2 * d ≤ c ∧ c ≤ 149 + (2 * d + 1)) → ¬ (218 + 2 * d ≤ c ∧ c ≤ 218 + (2 * d + 1)) → h' c = h c) := by
  refine ft_enter (n := 1) rfl (Nat.le_of_ble_eq_true rfl) rfl (b_Ch_emptyRows_0 ⟨⟨by omega, by omega⟩, fun h1 e1 n1 en => ?_⟩)
  rw [ft_mul_eq ⟨by omega, by omega⟩] at en
  rw [Int.toNat_natCast] at e1
  rw [en, show (2 : Int) * (d : Int) = ((2 * d + 0 : Nat) : Int) by push_cast; omega]
  refine v_Ch_empty hd (fun g k1 k2 => ⟨rfl, ⟨by rw [k2 286 (by omega) (by omega), e1, ft_hs_same], k1⟩, fun j hj => by rw [k2 286 (by omega) (by omega), e1, ft_hs_j hj], fun c c1 c2 c3 => by rw [k2 c c2 c3, e1, ft_hs_ne c c1]⟩) 2 0 h1 (by omega) (fun k hk => absurd hk (Nat.not_lt_zero k)) (fun c _ _ => rfl)
theorem oneK_iff {n : Nat} {par : Nat → Int} {m i k p : Nat} {D : List (Nat × Bool)} : oneK (cF n par m (i : Int) 1) (cF n par m (i : Int) 0) i k p D ↔ cO n par m i k p D := by
  unfold oneK cO
  constructor
  · rintro (⟨q, D2, h⟩ | ⟨q, D2, h⟩)
    · exact ⟨q, D2, Or.inl h⟩
    · exact ⟨q, D2, Or.inr h⟩
  · rintro ⟨q, D2, h | h⟩
    · exact Or.inl ⟨q, D2, h⟩
    · exact Or.inr ⟨q, D2, h⟩
theorem v_Ch_one {E : List (Int × Int)} (hE : lOk E) (h60 : E.length ≤ 60) {ht : Nat → Int} (hn : ∀ i, 0 ≤ ht i) (hU : sm ht E.length ≤ 40000000) {m : Nat} (hm : m + 1 ≤ E.length) {i : Nat} (hi : i = E.length - (m + 1)) {k : Nat} (hk1 : k ≤ 1) {h : ftH} (h44 : h 144 i = ht i) (w1 : Rw h E ht m (i : Int) (dep E i + 1)) {M1 : Nat} (hM1 : M1 = (dom E.length (parI E) m (parI E i)).length) (h86 : h 286 (dep E i) = (M1 : Int)) (w2 : ∀ p, p ≤ M1 → bst ht (cF E.length (parI E) m (parI E i) k p) (h (149 + (2 * dep E i + k)) p) (h (218 + (2 * dep E i + k)) p)) {R : Option ftV → ftH → Prop}
    (hk : ∀ h' : ftH, (∀ p, p ≤ M1 + ((dom E.length (parI E) m (i : Int)).length + 1) → bst ht (cF E.length (parI E) (m + 1) (parI E i) k p) (h' (149 + (2 * dep E i + k)) p) (h' (218 + (2 * dep E i + k)) p)) → (∀ c, c ≠ 287 → c ≠ 288 → c ≠ 149 + (2 * dep E i + k) → c ≠ 218 + (2 * dep E i + k) → h' c = h c) → R none h') :
    ∃ R3 : Option ftV → ftH → Prop, ft_C k_Ch_weighOne [.inr (.inr 143), .inl (i : Int), .inl ((dep E i + 1 : Nat) : Int), .inl (k : Int)] h R3 ∧ ∀ h3 : ftH, R3 none h3 → (∃ R5 : Option ftV → ftH → Prop, ft_C k_Ch_join [.inr (.inr 143), .inl (dep E i : Int), .inl (k : Int), .inl (((dom E.length (parI E) m (i : Int)).length + 1 : Nat) : Int)] h3 R5 ∧ ∀ h4 : ftH, R5 none h4 → R none h4) := by
  have hp : ∀ j, parI E j < j := fun j => (parI_rng E j).2
  have hiE : i < E.length := by omega
  have hdl := dep_le hE i hiE
  have hkn := kS_rng hE hiE
  have hpi := hp i
  have nd1 : (dom E.length (parI E) (m + 1) (parI E i)).Nodup := dom_nodup hp hm (by rw [← hi]; exact hpi)
  have ge1 : ∀ x ∈ dom E.length (parI E) (m + 1) (parI E i), x < E.length := fun x hx => (dom_ge hm hx).2
  have len1 := dom_len hp hm (e := parI E i) (by rw [← hi]; exact hpi)
  have ed : dom E.length (parI E) (m + 1) (parI E i) = i :: (dom E.length (parI E) m (i : Int) ++ dom E.length (parI E) m (parI E i)) := by rw [dom, if_pos (by rw [← hi]), ← hi]
  rw [ed] at nd1 len1 ge1
  rw [List.length_cons, List.length_append] at len1
  rw [List.nodup_cons, List.nodup_append] at nd1
  have capF : ∀ e k p D, e < ((E.length - m : Nat) : Int) → cF E.length (parI E) m e k p D → hD ht D ≤ 40000000 := fun e k p D he hc => by
    have := (hD_cap hn (cF_dom hc) (dom_nodup hp (by omega) he) (fun x hx => (dom_ge (by omega) hx).2)).1
    omega
  have tii : ht i ≤ 40000000 := by
    have := sm_ge E.length (fun j _ => hn j) hiE
    omega
  refine ⟨_, c_Ch_weighOne (P1 := cF E.length (parI E) m (i : Int) 1) (P0 := cF E.length (parI E) m (i : Int) 0) (A := dom E.length (parI E) m (i : Int)) hn hk1 (by omega) (fun p D q => cF_dom q) (fun q => nd1.1 (List.mem_append_left _ q)) (fun x hx => by have := (dom_ge (show m ≤ E.length by omega) hx).2; omega) (fun p D q => cF_le (Nat.le_refl 1) q) (fun p D q => cF_le (Nat.zero_le 1) q) (by omega) (by omega) (fun p D q => capF _ _ p D (by omega) q) tii h44 w1.1 (fun p hp' => w1.2 1 (Nat.le_refl 1) p hp') (fun p hp' => w1.2 0 (Nat.zero_le 1) p hp'), fun h3 hw => ?_⟩
  obtain ⟨-, u1, u2⟩ := hw
  refine ⟨_, c_Ch_join (T1 := cF E.length (parI E) m (parI E i) k) (T2 := cO E.length (parI E) m i k) (A := dom E.length (parI E) m (parI E i)) (C := i :: dom E.length (parI E) m (i : Int)) hn (fun p D q => cF_dom q) (fun p D q => cO_dom q) (fun x q => ?_) (fun x hx => by have := (dom_ge (show m ≤ E.length by omega) hx).2; omega) (fun x hx => ?_) (M1 := M1) (M2 := (dom E.length (parI E) m (i : Int)).length + 1) (fun p D q => by rw [hM1]; exact cF_le hk1 q) (fun p D q => cO_le hk1 q) (by omega) (fun p D q => capF _ _ p D (by omega) q) (fun p D q => ?_) (by omega) hk1 (by rw [u2 286 (by omega) (by omega)]; exact h86) (fun q hq => ?_) (fun q hq => bst_congr (fun D => oneK_iff) (u1 q hq)), fun h4 hw4 => ?_⟩
  · rcases List.mem_cons.mp q.1 with e | e
    · rw [e] at q
      exact nd1.1 (List.mem_append_right _ q.2)
    · exact nd1.2.2.2 x e x q.2 rfl
  · rcases List.mem_cons.mp hx with e | e
    · omega
    · have := (dom_ge (show m ≤ E.length by omega) e).2; omega
  · have h1 : (i :: dom E.length (parI E) m (i : Int)).Nodup := List.nodup_cons.mpr ⟨fun t => nd1.1 (List.mem_append_left _ t), nd1.2.1⟩
    have := (hD_cap hn (cO_dom q) h1 (n := E.length) (fun x hx => by
      rcases List.mem_cons.mp hx with e | e
      · omega
      · exact (dom_ge (show m ≤ E.length by omega) e).2)).1
    omega
  · rw [u2 _ (by omega) (by omega), u2 _ (by omega) (by omega)]
    exact w2 q hq
  · obtain ⟨-, v1, v2⟩ := hw4
    refine hk h4 (fun p hp' => bst_congr (fun D => ?_) (v1 p hp')) (fun c c1 c2 c3 c4 => by rw [v2 c c3 c4, u2 c c1 c2])
    have hit : parI E (E.length - (m + 1)) = parI E i := by rw [← hi]
    rw [cF_hit hit, ← hi]
    rfl
