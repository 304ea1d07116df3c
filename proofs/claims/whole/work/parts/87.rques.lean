/-! the reference's questions over entries and the target -/
def flI (h : ftH) (S : ftS) : Prop := h 309 20 = 0 ∨ laI h S
def qFr (h h' : ftH) : Prop := (∀ c, (c < 312 ∧ c ≠ 309) ∨ c = 330 ∨ c = 331 → h' c = h c) ∧ ∀ j, j = 4 ∨ 34 ≤ j → h' 309 j = h 309 j
theorem qFr_refl (h : ftH) : qFr h h := ⟨fun _ _ => rfl, fun _ _ => rfl⟩
theorem qFr_trans {h g k : ftH} (h1 : qFr h g) (h2 : qFr g k) : qFr h k := ⟨fun c hc => by rw [h2.1 c hc, h1.1 c hc], fun j hj => by rw [h2.2 j hj, h1.2 j hj]⟩
theorem qFr_of {h h' : ftH} (h1 : mFr h h') : qFr h h' := ⟨fun c hc => h1.1 c (by omega) (by omega), fun j hj => h1.2 j (by omega) (by omega) (by omega) (by omega) (by omega)⟩
theorem qFr_mc {h h' : ftH} (hf : qFr h h') {S : ftS} {P : List ftS} (hI : mcI h S P) : mcI h' S P := mcI_fr hI (hf.1 310 (by omega)) (hf.1 311 (by omega)) (hf.2 4 (by omega))
theorem d_Mo_compressed {h : ftH} {S : ftS} {P : List ftS} (hI : mcI h S P) {B : Int} (hok : sOk B S) (hla : flI h S) : ft_C k_Mo_compressed [.inr (.inr 309)] h (fun r h' => r = some (.inl ((eOf S).length : Int)) ∧ qFr h h' ∧ flI h' S) := by
  refine ft_enter (n := 0) rfl (Nat.le_of_ble_eq_true rfl) rfl (b_Mo_compressed_0 ⟨_, d_Mo_laysAll hI hok hla, fun h1 hw => ?_⟩)
  exact ⟨by rw [hw.2.2.1.1.1], qFr_of hw.2.1, Or.inr hw.2.2.1⟩
noncomputable def qEnt (i w : Int) (S : ftS) : Int := if i < 0 ∨ ¬ (0 ≤ w ∧ w ≤ 5) then -1 else if ((eOf S).length : Int) ≤ i then -2 else if w = 3 then (if parI (eOf S) i.toNat < 0 then -2 else parI (eOf S) i.toNat) else if w = 4 then hOf S i.toNat else if w = 5 then (if (bB S).testBit (59 - i.toNat) = true then 1 else 0) else qTell (eOf S) i w
theorem d_Mo_entry {h : ftH} {S : ftS} {P : List ftS} (hI : mcI h S P) {B : Int} (hok : sOk B S) (hla : flI h S) {i w : Int} : ft_C k_Mo_entry [.inr (.inr 309), .inl i, .inl w] h (fun r h' => r = some (.inr (.inl (qEnt i w S))) ∧ qFr h h' ∧ flI h' S) := by
  have hEo := eOf_ok hok
  have bad : (i < 0 ∨ ¬ (0 ≤ w ∧ w ≤ 5)) → ((some (.inr (.inl (-1))) : Option ftV) = some (.inr (.inl (qEnt i w S))) ∧ qFr h h ∧ flI h S) := fun q => by unfold qEnt; rw [if_pos q]; exact ⟨rfl, qFr_refl h, hla⟩
  refine ft_enter (n := 0) rfl (Nat.le_of_ble_eq_true rfl) rfl (b_Mo_entry_0 ⟨fun c => bad (by omega), fun c => ⟨fun d => ⟨_, d_Mo_laysAll hI hok hla, fun h1 hw => ?_⟩, fun d => bad (by omega)⟩⟩)
  obtain ⟨-, u1, u2, -, -⟩ := hw
  have fin : qFr h h1 ∧ flI h1 S := ⟨qFr_of u1, Or.inr u2⟩
  obtain ⟨k, rfl⟩ := Int.eq_ofNat_of_zero_le (show 0 ≤ i by omega)
  rw [u2.1.1]
  refine ⟨fun e => ?_, fun e => ?_⟩
  · have hk : k < (eOf S).length := by omega
    have ha := enI_at u2.1 hk
    have hd := u2.2.1 k hk
    have hr := parI_rng (eOf S) k
    have htell : qTell (eOf S) (k : Int) w = if w = 0 then pUn (h1 318 k) else if w = 1 then h1 319 k else h1 320 k := by
      unfold qTell
      rw [Int.toNat_natCast, kAt_get hk]
      unfold tellK
      simp only
      have e1 : kAt (eOf S) k / 64 = pUn (h1 318 k) := ha.2.2.1
      have e2 : kAt (eOf S) k % 64 = h1 319 k := ha.2.2.2
      rw [e1, e2, ha.2.1]
    rw [Int.toNat_natCast]
    unfold qEnt
    rw [if_neg (by omega), if_neg (by omega), Int.toNat_natCast]
    refine ⟨fun t => ?_, fun t => ?_, fun t => ?_, fun t => ?_, fun t => ?_, fun t => ?_⟩
    · rw [if_neg (by omega), if_neg (by omega), if_pos (by omega), ← hd.2.2]
      exact ⟨⟨by omega, by omega⟩, rfl, fin⟩
    · rw [if_neg (by omega), if_neg (by omega), if_neg (by omega), htell, if_pos t]
      exact ⟨⟨by omega, by omega⟩, rfl, fin⟩
    · rw [if_neg (by omega), if_neg (by omega), if_neg (by omega), htell, if_neg (by omega), if_pos t]
      exact ⟨⟨by omega, by omega⟩, rfl, fin⟩
    · rw [if_neg (by omega), if_neg (by omega), if_neg (by omega), htell, if_neg (by omega), if_neg (by omega)]
      exact ⟨⟨by omega, by omega⟩, rfl, fin⟩
    · rw [if_pos t, hd.1]
      refine ⟨⟨by omega, by omega⟩, fun q => ⟨⟨by omega, by omega⟩, ?_, fin⟩, fun q => ⟨?_, fin⟩⟩
      · unfold upO at q ⊢
        by_cases z : parI (eOf S) k < 0
        · rw [if_pos z] at q; exact absurd rfl q
        · rw [if_neg z, if_neg z, show ((parI (eOf S) k).toNat : Int) = parI (eOf S) k by omega]
      · unfold upO at q
        by_cases z : parI (eOf S) k < 0
        · rw [if_pos z]
        · rw [if_neg z] at q; omega
    · rw [if_neg (by omega), if_pos t, hd.2.1]
      exact ⟨⟨by omega, by omega⟩, rfl, fin⟩
  · unfold qEnt
    rw [if_neg (by omega), if_pos (by omega)]
    exact ⟨rfl, fin⟩
def bz (f : Nat → Int) : Nat → Int
  | 0 => -2
  | n + 1 => if (if bz f n < 0 then 0 else f (bz f n).toNat) < f n then (n : Int) else bz f n
theorem bz_rng (f : Nat → Int) : ∀ n, bz f n = -2 ∨ (0 ≤ bz f n ∧ bz f n < n)
  | 0 => Or.inl rfl
  | n + 1 => by
    have h1 := bz_rng f n
    rw [bz]
    split <;> omega
theorem d_Mo_busiest {h : ftH} {S : ftS} {P : List ftS} (hI : mcI h S P) {B : Int} (hok : sOk B S) (hla : flI h S) : ft_C k_Mo_busiest [.inr (.inr 309)] h (fun r h' => r = some (.inl (bz (hOf S) (eOf S).length)) ∧ qFr h h' ∧ flI h' S) := by
  have hEo := eOf_ok hok
  refine ft_enter (n := 2) rfl (Nat.le_of_ble_eq_true rfl) rfl (b_Mo_busiest_0 ⟨_, d_Mo_laysAll hI hok hla, fun h1 hw n3 e3 => ?_⟩)
  obtain ⟨-, u1, u2, -, -⟩ := hw
  rw [e3]
  have loop : ∀ m i : Nat, i + m = (eOf S).length → ft_V k_Mo_busiest 9 [some (.inr (.inr 309)), some (.inl (bz (hOf S) i)), some (.inl (i : Int))] [] h1 (fun r h' => r = some (.inl (bz (hOf S) (eOf S).length)) ∧ qFr h h' ∧ flI h' S) := by
    intro m
    induction m with
    | zero =>
      intro i hm
      exact b_Mo_busiest_9 ⟨fun _ => ⟨by rw [show i = (eOf S).length by omega], qFr_of u1, Or.inr u2⟩, fun c => absurd (by rw [u2.1.1]; omega) c⟩
    | succ m ih =>
      intro i hm
      have hr := bz_rng (hOf S) i
      have hd := (u2.2.1 i (by omega)).2.1
      have hi := ih (i + 1) (by omega)
      rw [bz] at hi
      refine b_Mo_busiest_9 ⟨fun c => absurd c (by rw [u2.1.1]; omega), fun _ => ?_⟩
      rw [Int.toNat_natCast, hd, inc1 (by omega)]
      refine ⟨⟨by omega, by omega⟩, fun c => ?_, fun c => ?_⟩
      · have hd2 := (u2.2.1 (bz (hOf S) i).toNat (by omega)).2.1
        rw [hd2]
        rw [if_neg (show ¬ bz (hOf S) i < 0 by omega)] at hi
        refine ⟨⟨by omega, by omega⟩, fun q => ?_, fun q => ?_⟩
        · rw [if_neg (by omega)] at hi; exact hi
        · rw [if_pos (by omega)] at hi; exact hi
      · rw [if_pos (show bz (hOf S) i < 0 by omega)] at hi
        refine ⟨fun q => ?_, fun q => ?_⟩
        · rw [if_neg (by omega)] at hi; exact hi
        · rw [if_pos (by omega)] at hi; exact hi
  exact loop (eOf S).length 0 (by omega)
def cz (f : Nat → Int) (b : Nat) : Nat → Int
  | 0 => -2
  | n + 1 => if b.testBit (59 - n) = true ∧ (cz f b n < 0 ∨ f n < f (cz f b n).toNat) then (n : Int) else cz f b n
theorem cz_rng (f : Nat → Int) (b : Nat) : ∀ n, cz f b n = -2 ∨ (0 ≤ cz f b n ∧ cz f b n < n)
  | 0 => Or.inl rfl
  | n + 1 => by
    have h1 := cz_rng f b n
    rw [cz]
    split <;> omega
theorem d_Mo_coldest {h : ftH} {S : ftS} {P : List ftS} (hI : mcI h S P) {B : Int} (hok : sOk B S) (hla : flI h S) : ft_C k_Mo_coldest [.inr (.inr 309)] h (fun r h' => r = some (.inl (cz (hOf S) (bB S) (eOf S).length)) ∧ qFr h h' ∧ flI h' S) := by
  have hEo := eOf_ok hok
  refine ft_enter (n := 2) rfl (Nat.le_of_ble_eq_true rfl) rfl (b_Mo_coldest_0 ⟨_, d_Mo_laysAll hI hok hla, fun h1 hw n3 e3 => ?_⟩)
  obtain ⟨-, u1, u2, -, -⟩ := hw
  rw [e3]
  have loop : ∀ m i : Nat, i + m = (eOf S).length → ft_V k_Mo_coldest 9 [some (.inr (.inr 309)), some (.inl (cz (hOf S) (bB S) i)), some (.inl (i : Int))] [] h1 (fun r h' => r = some (.inl (cz (hOf S) (bB S) (eOf S).length)) ∧ qFr h h' ∧ flI h' S) := by
    intro m
    induction m with
    | zero =>
      intro i hm
      exact b_Mo_coldest_9 ⟨fun _ => ⟨by rw [show i = (eOf S).length by omega], qFr_of u1, Or.inr u2⟩, fun c => absurd (by rw [u2.1.1]; omega) c⟩
    | succ m ih =>
      intro i hm
      have hr := cz_rng (hOf S) (bB S) i
      have hd := u2.2.1 i (by omega)
      have hi := ih (i + 1) (by omega)
      rw [cz] at hi
      refine b_Mo_coldest_9 ⟨fun c => absurd c (by rw [u2.1.1]; omega), fun _ => ?_⟩
      rw [Int.toNat_natCast, hd.2.1, hd.2.2, inc1 (by omega)]
      refine ⟨⟨by omega, by omega⟩, fun c => ?_, fun c => ?_⟩
      · rw [if_neg (fun q => c (if_pos q.1))] at hi
        exact hi
      · have hb : (bB S).testBit (59 - i) = true := by
          by_cases q : (bB S).testBit (59 - i) = true
          · exact q
          · rw [if_neg q] at c; omega
        refine ⟨fun q => ?_, fun q => ?_⟩
        · rw [if_pos ⟨hb, Or.inl q⟩] at hi; exact hi
        · have hd2 := (u2.2.1 (cz (hOf S) (bB S) i).toNat (by omega)).2.1
          rw [hd2]
          refine ⟨⟨by omega, by omega⟩, ⟨by omega, by omega⟩, fun t => ?_, fun t => ?_⟩
          · rw [if_neg (by omega)] at hi; exact hi
          · rw [if_pos ⟨hb, Or.inr (by omega)⟩] at hi; exact hi
  exact loop (eOf S).length 0 (by omega)
theorem d_Mo_lostHits {h : ftH} {S : ftS} {P : List ftS} (hI : mcI h S P) {B : Int} (hok : sOk B S) (hla : flI h S) : ft_C k_Mo_lostHits [.inr (.inr 309)] h (fun r h' => r = some (.inl (bL S S.1.toNat)) ∧ qFr h h' ∧ flI h' S) := by
  refine ft_enter (n := 0) rfl (Nat.le_of_ble_eq_true rfl) rfl (b_Mo_lostHits_0 ⟨_, d_Mo_laysAll hI hok hla, fun h1 hw => ?_⟩)
  exact ⟨by rw [hw.2.2.1.2.2], qFr_of hw.2.1, Or.inr hw.2.2.1⟩
noncomputable def qLW (c : Int) (S : ftS) : Int := if 0 ≤ c ∧ c ≤ 60 then bL S c.toNat else -1
theorem d_Mo_lostHitsWith {h : ftH} {S : ftS} {P : List ftS} (hI : mcI h S P) {B : Int} (hok : sOk B S) (hla : flI h S) {x : Int} : ft_C k_Mo_lostHitsWith [.inr (.inr 309), .inl x] h (fun r h' => r = some (.inl (qLW x S)) ∧ qFr h h' ∧ flI h' S) := by
  have hEo := eOf_ok hok
  have hHo := hOf_ok hok
  refine ft_enter (n := 0) rfl (Nat.le_of_ble_eq_true rfl) rfl (b_Mo_lostHitsWith_0 ⟨fun c => ⟨_, d_Mo_laysOpen hI hok hla, fun h1 hw => ?_⟩, fun c => ?_⟩)
  · obtain ⟨-, u1, u2, cc, u3, u4⟩ := hw
    obtain ⟨k, rfl⟩ := Int.eq_ofNat_of_zero_le c.1
    have hbt : ∀ p, p ≤ 60 → h1 323 (7808 + p) ≤ 1000000000 := fun p hp => (mV_rng (vF_b hHo.1 hHo.2.1 (Nat.le_refl _) (by omega) 0 p) (u4 p hp)).2.1
    refine ⟨_, c_Mo_lostBy hbt (show k ≤ 60 by omega), fun z h2 _ hw2 => ?_⟩
    obtain ⟨rfl, b, hz, b1, b2⟩ := hw2
    have hz := injI hz
    subst hz
    obtain ⟨x, D, x1, x2, x3, x4, x5⟩ := tab_best hEo.2.2 hHo.1 hHo.2.1 u3 u4 (show k ≤ 60 by omega) b1 b2
    refine ⟨?_, qFr_of u1, Or.inl u2⟩
    unfold qLW bL
    rw [if_pos c, Int.toNat_natCast, (bsX_eq x4).2.2, x5]
  · unfold qLW
    rw [if_neg c]
    exact ⟨rfl, qFr_refl h, hla⟩
theorem bL_60 {B : Int} {S : ftS} (hok : sOk B S) {x : Nat} {D : List (Nat × Bool)} (h : bestC (eOf S) (hOf S) 60 x D) : lD (hOf S) D = 0 := by
  have hEo := eOf_ok hok
  have hHo := hOf_ok hok
  have hp : ∀ i, parI (eOf S) i < i := fun i => (parI_rng (eOf S) i).2
  obtain ⟨p, A, a1, a2⟩ := cF_allk (n := (eOf S).length) (par := parI (eOf S)) (eOf S).length (-1) 0
  have hlen := dom_len hp (Nat.le_refl (eOf S).length) (e := -1) (by omega)
  have hpl := cF_le (by omega) a1
  have h1 := h.2.2.1 p A a1 (by omega)
  have s1 := top_sum (ht := hOf S) a1
  have s2 := top_sum (ht := hOf S) h.2.1
  have hz : ∀ l : List (Nat × Bool), (∀ x ∈ l, x.2 = true) → lD (hOf S) l = 0 := by
    intro l
    induction l with
    | nil => intro _; rfl
    | cons y l ih =>
      intro hl
      obtain ⟨e, b⟩ := y
      have hb : b = true := hl _ List.mem_cons_self
      rw [lD_cons, if_pos hb, ih (fun x hx => hl x (List.mem_cons_of_mem _ hx))]
      rfl
  have h2 := hz A a2
  have := (hD_nn hHo.1 D).2
  omega
theorem d_Mo_enough {h : ftH} {S : ftS} {P : List ftS} (hI : mcI h S P) {B : Int} (hok : sOk B S) (hla : flI h S) : ft_C k_Mo_enough [.inr (.inr 309)] h (fun r h' => r = some (.inl (bP S 60 : Int)) ∧ qFr h h' ∧ flI h' S) := by
  have hEo := eOf_ok hok
  have hHo := hOf_ok hok
  refine ft_enter (n := 1) rfl (Nat.le_of_ble_eq_true rfl) rfl (b_Mo_enough_0 ⟨_, d_Mo_laysOpen hI hok hla, fun h1 hw => ?_⟩)
  obtain ⟨-, u1, u2, cc, u3, u4⟩ := hw
  have hbt : ∀ p, p ≤ 60 → 0 ≤ h1 323 (7808 + p) := fun p hp => (mV_rng (vF_b hHo.1 hHo.2.1 (Nat.le_refl _) (by omega) 0 p) (u4 p hp)).1
  obtain ⟨b, b1, b2⟩ : ∃ b : Int, (∀ p, p ≤ 60 → b ≤ h1 323 (7808 + p)) ∧ ∃ p, p ≤ 60 ∧ b = h1 323 (7808 + p) := by
    have : ∀ n, n ≤ 60 → ∃ b : Int, (∀ p, p ≤ n → b ≤ h1 323 (7808 + p)) ∧ ∃ p, p ≤ n ∧ b = h1 323 (7808 + p) := by
      intro n
      induction n with
      | zero => intro _; exact ⟨_, fun p hp => by rw [show p = 0 by omega]; exact Int.le_refl _, 0, Nat.le_refl 0, rfl⟩
      | succ n ih =>
        intro hn
        obtain ⟨b, b1, p, p1, p2⟩ := ih (by omega)
        by_cases c : b ≤ h1 323 (7808 + (n + 1))
        · exact ⟨b, fun q hq => by by_cases t : q = n + 1; (rw [t]; exact c); exact b1 q (by omega), p, by omega, p2⟩
        · refine ⟨_, fun q hq => ?_, n + 1, Nat.le_refl _, rfl⟩
          by_cases t : q = n + 1
          · rw [t]; exact Int.le_refl _
          · have := b1 q (by omega); omega
    exact this 60 (Nat.le_refl 60)
  obtain ⟨x, D, x1, x2, x3, x4, x5⟩ := tab_best hEo.2.2 hHo.1 hHo.2.1 u3 u4 (Nat.le_refl 60) b1 b2
  have h0 := bL_60 hok x4
  have hx : (bP S 60 : Int) = (x : Int) := by unfold bP; rw [(bsX_eq x4).1]
  have loop : ∀ m p : Nat, p + m = x → ft_V k_Mo_enough 6 [some (.inr (.inr 309)), some (.inl (p : Int))] [] h1 (fun r h' => r = some (.inl (bP S 60 : Int)) ∧ qFr h h' ∧ flI h' S) := by
    intro m
    induction m with
    | zero =>
      intro p hm
      have e : p = x := by omega
      subst e
      refine b_Mo_enough_6 ?_
      rw [show (61 * (2 * (64 : Int) + 0) + (p : Int)).toNat = 7808 + p by omega]
      exact ⟨⟨⟨by omega, by omega⟩, ⟨by omega, by omega⟩, by omega, by omega⟩, ⟨by omega, by omega⟩, fun _ => ⟨by rw [hx], qFr_of u1, Or.inl u2⟩, fun c => absurd (by omega) c⟩
    | succ m ih =>
      intro p hm
      refine b_Mo_enough_6 ?_
      rw [show (61 * (2 * (64 : Int) + 0) + (p : Int)).toNat = 7808 + p by omega, inc1 (by omega)]
      exact ⟨⟨⟨by omega, by omega⟩, ⟨by omega, by omega⟩, by omega, by omega⟩, ⟨by omega, by omega⟩, fun c => absurd c (by have := x3 p (by omega); omega), fun _ => ih (p + 1) (by omega)⟩
  exact loop x 0 (by omega)
/-! the target -/
def tgA (h : ftH) (n : Nat) : List (Int × Int) := (List.range n).map fun i => (64 * pUn (h 326 i) + h 327 i, h 328 i)
def tgI (h : ftH) (T : List (Int × Int)) : Prop := h 309 26 = (T.length : Int) ∧ tgA h T.length = T ∧ ∀ i, i < T.length → 0 ≤ h 327 i ∧ h 327 i ≤ 32
theorem tgA_get {h : ftH} {n i : Nat} (hi : i < n) : (tgA h n)[i]? = some (64 * pUn (h 326 i) + h 327 i, h 328 i) := by simp [tgA, List.getElem?_range hi]
theorem tgI_at {h : ftH} {T : List (Int × Int)} (hT : tgI h T) {i : Nat} (hi : i < T.length) : kAt T i = 64 * pUn (h 326 i) + h 327 i ∧ vAt T i = h 328 i ∧ kS T i = pUn (h 326 i) ∧ kN T i = h 327 i := by
  have h1 := tgA_get (h := h) hi
  rw [hT.2.1] at h1
  have h2 := kAt_of h1
  have h3 := hT.2.2 i hi
  simp only at h2
  unfold kS kN
  rw [h2.1, h2.2]
  exact ⟨rfl, rfl, by omega, by omega⟩
theorem tgI_snoc {h h' : ftH} {T : List (Int × Int)} (hT : tgI h T) {v l x : Int} (hl : 0 ≤ l ∧ l ≤ 32) (e9 : h' 309 26 = ((T.length + 1 : Nat) : Int)) (f : ∀ j, j ≠ T.length → h' 326 j = h 326 j ∧ h' 327 j = h 327 j ∧ h' 328 j = h 328 j) (g : h' 326 T.length = v ∧ h' 327 T.length = l ∧ h' 328 T.length = x) : tgI h' (T ++ [(64 * pUn v + l, x)]) := by
  have hlen : (T ++ [(64 * pUn v + l, x)]).length = T.length + 1 := by rw [List.length_append, List.length_singleton]
  refine ⟨by rw [hlen]; exact e9, ?_, fun i hi => ?_⟩
  · rw [hlen]
    unfold tgA
    rw [List.range_succ, List.map_append]
    congr 1
    · have := hT.2.1
      conv => rhs; rw [← this]
      unfold tgA
      apply List.map_congr_left
      intro i hi
      rw [List.mem_range] at hi
      have := f i (by omega)
      rw [this.1, this.2.1, this.2.2]
    · simp [g.1, g.2.1, g.2.2]
  · rw [hlen] at hi
    by_cases q : i = T.length
    · rw [q, g.2.1]; exact hl
    · rw [(f i q).2.1]; exact hT.2.2 i (by omega)
theorem d_Mo_laysTarget {h : ftH} {S : ftS} {P : List ftS} (hI : mcI h S P) {B : Int} (hok : sOk B S) (hla : flI h S) : ft_C k_Mo_laysTarget [.inr (.inr 309)] h (fun r h' => r = none ∧ qFr h h' ∧ (laI h' S ∧ h' 309 20 ≠ 0) ∧ tgI h' (tOf S) ∧ ∀ c, c = 312 ∨ c = 329 ∨ c = 332 → h' c = h c) := by
  have hEo := eOf_ok hok
  refine ft_enter (n := 1) rfl (Nat.le_of_ble_eq_true rfl) rfl (b_Mo_laysTarget_0 ⟨_, d_Mo_laysAll hI hok hla, fun h1 hw h2 e2 => ?_⟩)
  obtain ⟨-, u1, u2, u3, u4⟩ := hw
  have h20 : h1 309 20 ≠ 0 := by
    by_cases c : h 309 20 = 0
    · rw [u3 c]; omega
    · rw [u4 c]; exact c
  have r2 : ∀ c, c ≠ 309 → h2 c = h1 c := fun c hc => by rw [e2]; exact ft_hs_ne c hc
  have r2j : ∀ j, j ≠ 26 → h2 309 j = h1 309 j := fun j hj => by rw [e2]; exact ft_hs_j hj
  have loop : ∀ (m i : Nat) (g : ftH), i + m = (eOf S).length → (∀ c, c ≠ 309 → (c < 326 ∨ 329 ≤ c) → g c = h1 c) → (∀ j, j ≠ 26 → g 309 j = h1 309 j) → tgI g (tgL (eOf S) (bB S) i) → (tgL (eOf S) (bB S) i).length ≤ i → ft_V k_Mo_laysTarget 11 [some (.inr (.inr 309)), some (.inl (i : Int))] [] g (fun r h' => r = none ∧ qFr h h' ∧ (laI h' S ∧ h' 309 20 ≠ 0) ∧ tgI h' (tOf S) ∧ ∀ c, c = 312 ∨ c = 329 ∨ c = 332 → h' c = h c) := by
    intro m
    induction m with
    | zero =>
      intro i g hm f fj ht hle
      have ei : i = (eOf S).length := by omega
      subst ei
      refine b_Mo_laysTarget_11 ⟨fun _ => ⟨rfl, ⟨fun c hc => by rw [f c (by omega) (by omega), u1.1 c (by omega) (by omega)], fun j hj => by rw [fj j (by omega), u1.2 j (by omega) (by omega) (by omega) (by omega) (by omega)]⟩, ⟨⟨enI_fr u2.1 (fj 14 (by omega)) (f 318 (by omega) (by omega)) (f 319 (by omega) (by omega)) (f 320 (by omega) (by omega)), fun i hi => by rw [f 321 (by omega) (by omega), f 322 (by omega) (by omega), f 325 (by omega) (by omega)]; exact u2.2.1 i hi, by rw [fj 21 (by omega)]; exact u2.2.2⟩, by rw [fj 20 (by omega)]; exact h20⟩, ht, fun c hc => by rw [f c (by omega) (by omega), u1.1 c (by omega) (by omega)]⟩, fun c => absurd (by rw [fj 14 (by omega), u2.1.1]; omega) c⟩
    | succ m ih =>
      intro i g hm f fj ht hle
      have hiE : i < (eOf S).length := by omega
      have ha := enI_at u2.1 hiE
      have hd := u2.2.1 i hiE
      have hr := parI_rng (eOf S) i
      have hz := u2.1.2.2 i hiE
      have go : ∀ (x : Int) (h3 h4 h5 h6 : ftH), tgO (eOf S) (bB S) i = [(kAt (eOf S) i, x)] → h3 = ft_hs g 326 (tgL (eOf S) (bB S) i).length (h1 318 i) → h4 = ft_hs h3 327 (tgL (eOf S) (bB S) i).length (h1 319 i) → h5 = ft_hs h4 328 (tgL (eOf S) (bB S) i).length x → h6 = ft_hs h5 309 26 (((tgL (eOf S) (bB S) i).length + 1 : Nat) : Int) → ft_V k_Mo_laysTarget 11 [some (.inr (.inr 309)), some (.inl ((i + 1 : Nat) : Int))] [] h6 (fun r h' => r = none ∧ qFr h h' ∧ (laI h' S ∧ h' 309 20 ≠ 0) ∧ tgI h' (tOf S) ∧ ∀ c, c = 312 ∨ c = 329 ∨ c = 332 → h' c = h c) := by
        intro x h3 h4 h5 h6 hx e3 e4 e5 e6
        have y6 : h6 326 = h3 326 := by rw [e6, ft_hs_ne _ (by omega), e5, ft_hs_ne _ (by omega), e4, ft_hs_ne _ (by omega)]
        have y7 : h6 327 = h4 327 := by rw [e6, ft_hs_ne _ (by omega), e5, ft_hs_ne _ (by omega)]
        have y8 : h6 328 = h5 328 := by rw [e6, ft_hs_ne _ (by omega)]
        refine ih (i + 1) h6 (by omega) (fun c c1 c2 => by rw [e6, ft_hs_ne c c1, e5, ft_hs_ne c (by omega), e4, ft_hs_ne c (by omega), e3, ft_hs_ne c (by omega), f c c1 c2]) (fun j hj => by rw [e6, ft_hs_j hj, e5, ft_hs_ne 309 (by omega), e4, ft_hs_ne 309 (by omega), e3, ft_hs_ne 309 (by omega), fj j hj]) ?_ (by rw [tgL_succ, hx, List.length_append, List.length_singleton]; omega)
        rw [tgL_succ, hx, ha.1]
        refine tgI_snoc ht hz (by rw [e6]; exact ft_hs_same) (fun j hj => ?_) ⟨by rw [y6, e3]; exact ft_hs_same, by rw [y7, e4]; exact ft_hs_same, by rw [y8, e5]; exact ft_hs_same⟩
        rw [y6, y7, y8, e3, ft_hs_j hj, e4, ft_hs_j hj, e5, ft_hs_j hj, e3, ft_hs_ne 327 (by omega), e4, ft_hs_ne 328 (by omega), e3, ft_hs_ne 328 (by omega)]
        exact ⟨rfl, rfl, rfl⟩
      have skip : tgO (eOf S) (bB S) i = [] → ft_V k_Mo_laysTarget 11 [some (.inr (.inr 309)), some (.inl ((i + 1 : Nat) : Int))] [] g (fun r h' => r = none ∧ qFr h h' ∧ (laI h' S ∧ h' 309 20 ≠ 0) ∧ tgI h' (tOf S) ∧ ∀ c, c = 312 ∨ c = 329 ∨ c = 332 → h' c = h c) := fun hx => ih (i + 1) g (by omega) f fj (by rw [tgL_succ, hx, List.append_nil]; exact ht) (by rw [tgL_succ, hx, List.append_nil]; omega)
      have lay : (bB S).testBit (59 - i) = true ∨ tgO (eOf S) (bB S) i = [(kAt (eOf S) i, 16)] → ((0 ≤ (i : Int) ∧ (i : Int) < 64) ∧ ((0 ≤ g 309 26 ∧ g 309 26 < 64) ∧ (∀ h3 : ftH, h3 = ft_hs g 326 (g 309 26).toNat (g 318 i) → ((0 ≤ (i : Int) ∧ (i : Int) < 64) ∧ ((0 ≤ h3 309 26 ∧ h3 309 26 < 64) ∧ (∀ h4 : ftH, h4 = ft_hs h3 327 (h3 309 26).toNat (h3 319 i) → ((0 ≤ (i : Int) ∧ (i : Int) < 64) ∧ ((¬ (h4 325 i = 1) → ((0 ≤ h4 309 26 ∧ h4 309 26 < 64) ∧ (∀ h5 : ftH, h5 = ft_hs h4 328 (h4 309 26).toNat 16 → (∀ h6 : ftH, h6 = ft_hs h5 309 26 (ft_add (h5 309 26) 1) → ft_V k_Mo_laysTarget 11 [some (.inr (.inr 309)), some (.inl ((i + 1 : Nat) : Int))] [] h6 (fun r h' => r = none ∧ qFr h h' ∧ (laI h' S ∧ h' 309 20 ≠ 0) ∧ tgI h' (tOf S) ∧ ∀ c, c = 312 ∨ c = 329 ∨ c = 332 → h' c = h c))))) ∧ (h4 325 i = 1 → ((0 ≤ (i : Int) ∧ (i : Int) < 64) ∧ ((0 ≤ h4 309 26 ∧ h4 309 26 < 64) ∧ (∀ h5 : ftH, h5 = ft_hs h4 328 (h4 309 26).toNat (h4 320 i) → (∀ h6 : ftH, h6 = ft_hs h5 309 26 (ft_add (h5 309 26) 1) → ft_V k_Mo_laysTarget 11 [some (.inr (.inr 309)), some (.inl ((i + 1 : Nat) : Int))] [] h6 (fun r h' => r = none ∧ qFr h h' ∧ (laI h' S ∧ h' 309 20 ≠ 0) ∧ tgI h' (tOf S) ∧ ∀ c, c = 312 ∨ c = 329 ∨ c = 332 → h' c = h c)))))))))))))) := by
        intro hcase
        rw [ht.1, Int.toNat_natCast, f 318 (by omega) (by omega)]
        refine ⟨⟨by omega, by omega⟩, ⟨by omega, by omega⟩, fun h3 e3 => ?_⟩
        have q3 : ∀ c, c ≠ 326 → h3 c = g c := fun c hc => by rw [e3]; exact ft_hs_ne c hc
        rw [q3 309 (by omega), ht.1, Int.toNat_natCast, q3 319 (by omega), f 319 (by omega) (by omega)]
        refine ⟨⟨by omega, by omega⟩, ⟨by omega, by omega⟩, fun h4 e4 => ?_⟩
        have q4 : ∀ c, c ≠ 326 → c ≠ 327 → h4 c = g c := fun c c1 c2 => by rw [e4, ft_hs_ne c c2, q3 c c1]
        rw [q4 309 (by omega) (by omega), ht.1, Int.toNat_natCast, q4 325 (by omega) (by omega), f 325 (by omega) (by omega), hd.2.2, q4 320 (by omega) (by omega), f 320 (by omega) (by omega)]
        refine ⟨⟨by omega, by omega⟩, fun c => ⟨⟨by omega, by omega⟩, fun h5 e5 h6 e6 => ?_⟩, fun c => ⟨⟨by omega, by omega⟩, ⟨by omega, by omega⟩, fun h5 e5 h6 e6 => ?_⟩⟩
        · rw [e5, ft_hs_ne 309 (by omega), q4 309 (by omega) (by omega), ht.1, inc1 (by omega), ← e5] at e6
          refine go 16 h3 h4 h5 h6 ?_ e3 e4 e5 e6
          rcases hcase with q | q
          · exact absurd (if_pos q) c
          · exact q
        · rw [e5, ft_hs_ne 309 (by omega), q4 309 (by omega) (by omega), ht.1, inc1 (by omega), ← e5] at e6
          refine go (h1 320 i) h3 h4 h5 h6 ?_ e3 e4 e5 e6
          have hb : (bB S).testBit (59 - i) = true := by
            by_cases q : (bB S).testBit (59 - i) = true
            · exact q
            · rw [if_neg q] at c; omega
          unfold tgO
          rw [if_pos hb, ha.2.1]
      refine b_Mo_laysTarget_11 ⟨fun c => absurd c (by rw [fj 14 (by omega), u2.1.1]; omega), fun _ => ?_⟩
      rw [Int.toNat_natCast, inc1 (by omega)]
      refine ⟨⟨by omega, by omega⟩, fun c => lay ?_, fun c => ?_⟩
      · rw [f 325 (by omega) (by omega), hd.2.2] at c
        by_cases q : (bB S).testBit (59 - i) = true
        · exact Or.inl q
        · rw [if_neg q] at c; exact absurd rfl c
      · rw [f 325 (by omega) (by omega), hd.2.2] at c
        have nb : ¬ (bB S).testBit (59 - i) = true := fun q => by rw [if_pos q] at c; omega
        rw [f 321 (by omega) (by omega), hd.1]
        refine ⟨⟨by omega, by omega⟩, fun d => skip ?_, fun d => ?_⟩
        · unfold tgO upO at *
          rw [if_neg nb, if_neg (fun q => ?_)]
          rw [if_neg (by omega)] at d
          omega
        · have hp : 0 ≤ parI (eOf S) i := by
            unfold upO at d
            by_cases q : parI (eOf S) i < 0
            · rw [if_pos q] at d; exact absurd rfl d
            · omega
          have hup : upO (eOf S) i = (parI (eOf S) i).toNat := if_neg (by omega)
          have hd2 := (u2.2.1 (parI (eOf S) i).toNat (by omega)).2.2
          rw [hup, Int.toNat_natCast, f 325 (by omega) (by omega), hd2]
          refine ⟨⟨by omega, by omega⟩, ⟨by omega, by omega⟩, fun q => lay (Or.inr ?_), fun q => skip ?_⟩
          · have hb : (bB S).testBit (59 - (parI (eOf S) i).toNat) = true := by
              by_cases t : (bB S).testBit (59 - (parI (eOf S) i).toNat) = true
              · exact t
              · rw [if_neg t] at q; exact absurd rfl q
            unfold tgO
            rw [if_neg nb, if_pos ⟨hp, hb⟩]
          · unfold tgO
            rw [if_neg nb, if_neg (fun t => by rw [if_pos t.2] at q; omega)]
  exact loop (eOf S).length 0 h2 (by omega) (fun c c1 c2 => r2 c c1) r2j ⟨by rw [e2]; exact ft_hs_same, rfl, fun i hi => absurd hi (Nat.not_lt_zero i)⟩ (Nat.le_refl 0)
