/-! PURE: the nodes of the class: ranges of routes, nodes left out, halves, weights -/
def rngP (L : List (Int × Int)) (d : Nat) (v : Int) (a b : Nat) : Prop := a ≤ b ∧ b ≤ L.length ∧ ∀ i, i < L.length → (rPr d v (kAt L i, vAt L i) = true ↔ a ≤ i ∧ i < b)
def rngI (L : List (Int × Int)) (d : Nat) (v : Int) (a b : Nat) : Prop := a ≤ b ∧ b ≤ L.length ∧ ∀ i, i < L.length → (rIn d v (kAt L i, vAt L i) = true ↔ a ≤ i ∧ i < b)
theorem mem_at {L : List (Int × Int)} {q : Int × Int} (h : q ∈ L) : ∃ i, i < L.length ∧ q = (kAt L i, vAt L i) := by
  obtain ⟨i, hi⟩ := List.getElem?_of_mem h
  refine ⟨i, (List.getElem?_eq_some_iff.mp hi).1, ?_⟩
  rw [(kAt_of hi).1, (kAt_of hi).2]
theorem at_mem {L : List (Int × Int)} {i : Nat} (h : i < L.length) : (kAt L i, vAt L i) ∈ L := List.mem_of_getElem? (kAt_get h)
theorem rP_at {L : List (Int × Int)} {d : Nat} {v : Int} {i : Nat} : rPr d v (kAt L i, vAt L i) = true ↔ v ≤ kS L i ∧ kS L i < v + 2 ^ d ∧ (32 : Int) - d < kN L i := rPr_iff
theorem rI_at {L : List (Int × Int)} {d : Nat} {v : Int} {i : Nat} : rIn d v (kAt L i, vAt L i) = true ↔ v ≤ kS L i ∧ kS L i < v + 2 ^ d ∧ (32 : Int) - d ≤ kN L i := rIn_iff
/-- a node with its own route first -/
theorem rng_eq {L : List (Int × Int)} (hL : lOk L) {d : Nat} {v : Int} (hn : ndOk d v) {a b : Nat} (h : rngI L d v a b) (hab : a < b) : (kAt L a = 64 * v + (32 - (d : Int)) → rngP L d v (a + 1) b ∧ arF L (33 - d) v = vAt L a) ∧ (kAt L a ≠ 64 * v + (32 - (d : Int)) → rngP L d v a b ∧ arF L (33 - d) v = arF L (32 - d) v) := by
  obtain ⟨h1, h2, h3⟩ := h
  have hd := hn.1
  have haL : a < L.length := by omega
  have ha := rI_at.mp ((h3 a haL).mpr ⟨Nat.le_refl a, hab⟩)
  have own : ∀ i, i < L.length → rIn d v (kAt L i, vAt L i) = true → kN L i = 32 - d → kAt L i = 64 * v + (32 - (d : Int)) := fun i hi q1 q2 => by
    have q3 := rI_at.mp q1
    have hk := kAt_pK hL hi
    have hp := p2_pos d
    have hself := in_self hL hi
    have := rPr_of (L := L) hL (d := d) (v := v) hn (at_mem hi) (by
      have := pk_inn hk hn.2 hself ((nd_in hd).mpr ⟨q3.1, q3.2.1⟩) (by rw [(nd_eq hd).2]; unfold kN at q2; omega)
      rw [(nd_eq hd).1, (nd_eq hd).2, pSz_nd hd] at this
      unfold pIn
      simp only
      unfold kS at q3
      omega) (by unfold kN at q2; simp only; omega)
    have e1 := this.1
    simp only at e1
    unfold kN at q2
    omega
  constructor
  · intro e
    have e1 : kS L a = v := by unfold kS; rw [e]; exact (nd_eq hd).1
    have e2 : kN L a = 32 - d := by unfold kN; rw [e]; exact (nd_eq hd).2
    refine ⟨⟨by omega, h2, fun i hi => ?_⟩, ?_⟩
    · have hI := h3 i hi
      rw [rI_at] at hI
      rw [rP_at]
      constructor
      · rintro ⟨a1, a2, a3⟩
        have := hI.mp ⟨a1, a2, by omega⟩
        refine ⟨?_, this.2⟩
        by_cases c : i = a
        · rw [c] at a3; omega
        · omega
      · rintro ⟨a1, a2⟩
        have := hI.mpr ⟨by omega, a2⟩
        refine ⟨this.1, this.2.1, ?_⟩
        by_cases c : kN L i = 32 - d
        · have := own i hi (rI_at.mpr this) c
          have := kAt_lt hL (show a < i by omega) hi
          omega
        · omega
    · rw [show (33 : Int) - d = (32 - d) + 1 by omega]
      exact arF_own hL haL (kIn_iff.mpr ⟨by omega, by have := (kS_rng hL haL).2.2.2.2; omega⟩) e2
  · intro e
    have hno : ∀ i, i < L.length → rIn d v (kAt L i, vAt L i) = true → kN L i ≠ 32 - d := fun i hi q1 q2 => by
      have q3 := own i hi q1 q2
      have q4 := (h3 i hi).mp q1
      rcases Nat.lt_or_eq_of_le q4.1 with c | c
      · have := kAt_lt hL c hi
        have hr := kS_rng hL haL
        unfold kS kN at *
        omega
      · rw [← c] at q3
        exact e q3
    refine ⟨⟨h1, h2, fun i hi => ?_⟩, arF_none hL hn (fun q hq q1 q2 => ?_)⟩
    · rw [← h3 i hi, rP_at, rI_at]
      constructor
      · rintro ⟨a1, a2, a3⟩; exact ⟨a1, a2, by omega⟩
      · intro q
        have := hno i hi (rI_at.mpr q)
        exact ⟨q.1, q.2.1, by omega⟩
    · obtain ⟨i, hi, rfl⟩ := mem_at hq
      exact hno i hi q1 q2
theorem rng_none {L : List (Int × Int)} {d : Nat} {v : Int} {a : Nat} (h : rngP L d v a a) : ¬ hR L d v = true := by
  rw [hR_no]
  intro q hq hp
  obtain ⟨i, hi, rfl⟩ := mem_at hq
  have := (h.2.2 i hi).mp hp
  omega
theorem rng_some {L : List (Int × Int)} {d : Nat} {v : Int} {a b : Nat} (h : rngP L d v a b) (hab : a < b) : hR L d v = true :=
  hR_iff.mpr ⟨_, at_mem (by have := h.2.1; omega), (h.2.2 a (by have := h.2.1; omega)).mpr ⟨Nat.le_refl a, hab⟩⟩
theorem div_mono {x y : Int} (d : Nat) (h : x ≤ y) : x / 2 ^ d ≤ y / 2 ^ d := Int.ediv_le_ediv (p2_pos d) h
theorem cl_single {L : List (Int × Int)} (hL : lOk L) {d : Nat} {v : Int} (hn : ndOk d v) {a b : Nat} (hr : rngP L d v a b) (hab : a < b) {dz : Nat} (hz : dz < d) (hlen : (32 : Int) - dz ≤ kN L a) (hag : kS L a / 2 ^ dz = kS L (b - 1) / 2 ^ dz) {w : Int} (hw : w = kS L a - kS L a % 2 ^ dz) :
    ndOk dz w ∧ v ≤ w ∧ w < v + 2 ^ d ∧ (∀ q ∈ L, rPr d v q = true → rIn dz w q = true) ∧ rngI L dz w a b ∧ arF L (32 - dz) w = arF L (33 - d) v := by
  obtain ⟨h1, h2, h3⟩ := hr
  have hd := hn.1
  have haL : a < L.length := by omega
  have hp := p2_pos dz
  have ha := rP_at.mp ((h3 a haL).mpr ⟨Nat.le_refl a, hab⟩)
  have hrg := kS_rng hL haL
  have hmod := Int.emod_nonneg (kS L a) (show (2 : Int) ^ dz ≠ 0 by omega)
  have hmod2 := Int.emod_lt_of_pos (kS L a) hp
  have hwm : w % 2 ^ dz = 0 := by
    rw [hw]
    have := Int.mul_ediv_add_emod (kS L a) (2 ^ dz)
    rw [show kS L a - kS L a % 2 ^ dz = 2 ^ dz * (kS L a / 2 ^ dz) by omega]
    exact Int.mul_emod_right _ _
  have hw0 : 0 ≤ w := by
    have := Int.mul_ediv_add_emod (kS L a) (2 ^ dz)
    have h9 : 0 ≤ kS L a / 2 ^ dz := Int.ediv_nonneg hrg.1 (by omega)
    have : 0 ≤ 2 ^ dz * (kS L a / 2 ^ dz) := Int.mul_nonneg (by omega) h9
    omega
  have hnd : ndOk dz w := nd_mk (by omega) hw0 (by omega) hwm
  have hsub := pk_inn hn.2 hnd.2 ((nd_in hd).mpr ⟨ha.1, ha.2.1⟩) ((nd_in hnd.1).mpr ⟨by omega, by omega⟩) (by rw [(nd_eq hd).2, (nd_eq hnd.1).2]; omega)
  rw [(nd_eq hd).1, (nd_eq hd).2, (nd_eq hnd.1).1, (nd_eq hnd.1).2, pSz_nd hd, pSz_nd hnd.1] at hsub
  have hall : ∀ i, i < L.length → rPr d v (kAt L i, vAt L i) = true → rIn dz w (kAt L i, vAt L i) = true := fun i hi q => by
    have q1 := (h3 i hi).mp q
    have s1 := kS_le hL q1.1 hi
    have s2 := kS_le hL (show i ≤ b - 1 by omega) (by omega)
    have m1 := div_mono dz s1
    have m2 := div_mono dz s2
    have e1 : kS L i / 2 ^ dz = kS L a / 2 ^ dz := by omega
    have e2 := Int.mul_ediv_add_emod (kS L i) (2 ^ dz)
    have e3 := Int.mul_ediv_add_emod (kS L a) (2 ^ dz)
    have e4 := Int.emod_nonneg (kS L i) (show (2 : Int) ^ dz ≠ 0 by omega)
    have e5 := Int.emod_lt_of_pos (kS L i) hp
    rw [e1] at e2
    have b1 : w ≤ kS L i ∧ kS L i < w + 2 ^ dz := by omega
    refine rI_at.mpr ⟨b1.1, b1.2, ?_⟩
    by_cases c : (32 : Int) - dz ≤ kN L i
    · exact c
    · exfalso
      have := pk_inn (kAt_pK hL hi) hnd.2 (in_self hL hi) ((nd_in hnd.1).mpr b1) (by rw [(nd_eq hnd.1).2]; unfold kN at c; omega)
      rw [(nd_eq hnd.1).1] at this
      have t1 : kS L i ≤ w := this.1
      rcases Nat.lt_or_eq_of_le q1.1 with c2 | c2
      · have := kAt_lt hL c2 hi
        unfold kS kN at *
        omega
      · rw [← c2] at c
        omega
  refine ⟨hnd, hsub.1, by omega, fun q hq hp' => ?_, ⟨h1, h2, fun i hi => ?_⟩, ?_⟩
  · obtain ⟨i, hi, rfl⟩ := mem_at hq
    exact hall i hi hp'
  · rw [← h3 i hi]
    constructor
    · intro q
      have := rI_at.mp q
      exact rP_at.mpr ⟨by omega, by omega, by omega⟩
    · exact hall i hi
  · have e1 : arF L (32 - dz) w = arF L (33 - d) w := by
      refine arF_congr (fun q hq => ⟨fun t => ⟨?_, t.2⟩, fun t => ⟨by omega, t.2⟩⟩)
      by_cases c : q.1 % 64 < 33 - d
      · exact c
      · exfalso
        obtain ⟨i, hi, rfl⟩ := mem_at hq
        simp only at t c
        have hp2 := p2_pos d
        have := pk_inn hn.2 (kAt_pK hL hi) ((nd_in hd).mpr ⟨hsub.1, by omega⟩) t.2 (by rw [(nd_eq hd).2]; omega)
        rw [(nd_eq hd).1, (nd_eq hd).2, pSz_nd hd] at this
        have hpi := pSz_pos (kAt L i % 64)
        have := rI_at.mp (hall i hi (rP_at.mpr ⟨this.1, by unfold kS; omega, by unfold kN; omega⟩))
        unfold kN at this
        omega
    rw [e1]
    exact arF_in hL hn ⟨hsub.1, by omega⟩
/-- a node that has a route of its own, or routes in both halves -/
def tgt (L : List (Int × Int)) (d : Nat) (v : Int) : Prop := (∃ q ∈ L, rIn d v q = true ∧ q.1 % 64 = 32 - d) ∨ ∃ e, d = e + 1 ∧ (∃ q ∈ L, rIn e v q = true) ∧ ∃ q ∈ L, rIn e (v + 2 ^ e) q = true
theorem cl_tight {L : List (Int × Int)} (hL : lOk L) {a b : Nat} (hab : a < b) (hb : b ≤ L.length) {dz : Nat} {w : Int} (hn : ndOk dz w) (hI : rngI L dz w a b) (hst : (32 : Int) - dz = kN L a ∨ ∃ e, dz = e + 1 ∧ (32 : Int) - e ≤ kN L a ∧ kS L a / 2 ^ e ≠ kS L (b - 1) / 2 ^ e) : tgt L dz w := by
  have hm := nd_mod hn
  have hs := kS_le hL (show a ≤ b - 1 by omega) (by omega)
  have ha := (hI.2.2 a (by omega)).mpr ⟨Nat.le_refl a, hab⟩
  have hb1 := (hI.2.2 (b - 1) (by omega)).mpr ⟨by omega, by omega⟩
  rcases hst with h | ⟨e, rfl, h0, h⟩
  · exact Or.inl ⟨_, at_mem (show a < L.length by omega), ha, by unfold kN at h; simp only; omega⟩
  · refine Or.inr ⟨e, rfl, ?_⟩
    have a1 := rI_at.mp ha
    have a2 := rI_at.mp hb1
    have hp := p2_pos e
    have hsu := p2_succ e
    rw [hsu] at a1 a2
    have hdv : (2 : Int) ^ e ∣ w := Int.dvd_trans ⟨2, by rw [hsu]; omega⟩ (Int.dvd_of_emod_eq_zero hm)
    obtain ⟨c, hc⟩ := hdv
    have q1 : ∀ x : Int, w ≤ x → x < w + 2 ^ e → x / 2 ^ e = c := fun x x1 x2 => by
      refine Int.ediv_eq_iff_of_pos hp |>.mpr ⟨?_, ?_⟩
      · rw [Int.mul_comm]; omega
      · rw [Int.mul_comm]; omega
    have q2 : ∀ x : Int, w + 2 ^ e ≤ x → x < w + (2 ^ e + 2 ^ e) → x / 2 ^ e = c + 1 := fun x x1 x2 => by
      refine Int.ediv_eq_iff_of_pos hp |>.mpr ⟨?_, ?_⟩
      · rw [Int.add_mul, Int.one_mul, Int.mul_comm]; omega
      · rw [Int.add_mul, Int.one_mul, Int.mul_comm]; omega
    by_cases c1 : kS L a < w + 2 ^ e
    · by_cases c2 : kS L (b - 1) < w + 2 ^ e
      · exact absurd (by rw [q1 _ a1.1 c1, q1 _ a2.1 c2]) h
      · have h0' : (32 : Int) - e ≤ kN L (b - 1) := by
          by_cases c3 : kN L (b - 1) = 32 - ((e + 1 : Nat) : Int)
          · exfalso
            have := pk_inn (kAt_pK hL (show b - 1 < L.length by omega)) hn.2 (in_self hL (by omega)) ((nd_in hn.1).mpr ⟨a2.1, by rw [hsu]; exact a2.2.1⟩) (by rw [(nd_eq hn.1).2]; unfold kN at c3; omega)
            rw [(nd_eq hn.1).1] at this
            have t1 : kS L (b - 1) ≤ w := this.1
            omega
          · have := a2.2.2
            push_cast at this c3
            omega
        exact ⟨⟨_, at_mem (show a < L.length by omega), rI_at.mpr ⟨a1.1, c1, h0⟩⟩, _, at_mem (show b - 1 < L.length by omega), rI_at.mpr ⟨by omega, by omega, h0'⟩⟩
    · exact absurd (by rw [q2 _ (by omega) a1.2.1, q2 _ (by omega) a2.2.1]) h
theorem cl_split {L : List (Int × Int)} (hL : lOk L) {d : Nat} {v : Int} {a b m : Nat} (hr : rngP L (d + 1) v a b) (h1 : a ≤ m) (h2 : m ≤ b) (hlo : ∀ i, a ≤ i → i < m → kS L i < v + 2 ^ d) (hhi : m < b → v + 2 ^ d ≤ kS L m) : rngI L d v a m ∧ rngI L d (v + 2 ^ d) m b := by
  obtain ⟨g1, g2, g3⟩ := hr
  have hp := p2_pos d
  have hs := p2_succ d
  have hin : ∀ i, i < L.length → (a ≤ i ∧ i < b ↔ rIn d v (kAt L i, vAt L i) = true ∨ rIn d (v + 2 ^ d) (kAt L i, vAt L i) = true) := fun i hi => by rw [← g3 i hi]; exact rPr_half
  have hup : ∀ i, m ≤ i → i < b → v + 2 ^ d ≤ kS L i := fun i i1 i2 => by
    have := hhi (by omega)
    have := kS_le hL i1 (by omega)
    omega
  refine ⟨⟨h1, by omega, fun i hi => ⟨fun q => ?_, fun q => ?_⟩⟩, h2, g2, fun i hi => ⟨fun q => ?_, fun q => ?_⟩⟩
  · have q1 := (hin i hi).mpr (Or.inl q)
    have q2 := rI_at.mp q
    refine ⟨q1.1, ?_⟩
    by_cases c : i < m
    · exact c
    · have := hup i (by omega) q1.2
      omega
  · rcases (hin i hi).mp ⟨q.1, by omega⟩ with t | t
    · exact t
    · have t1 := rI_at.mp t
      have := hlo i q.1 q.2
      omega
  · have q1 := (hin i hi).mpr (Or.inr q)
    have q2 := rI_at.mp q
    refine ⟨?_, q1.2⟩
    by_cases c : m ≤ i
    · exact c
    · have := hlo i q1.1 (by omega)
      omega
  · rcases (hin i hi).mp ⟨by omega, q.2⟩ with t | t
    · have t1 := rI_at.mp t
      have := hup i q.1 q.2
      omega
    · exact t
/-- the weight of a node that waits -/
noncomputable def cwt (L : List (Int × Int)) (d : Nat) (v : Int) (r : Nat) : Nat := by
  classical
  exact if r = 0 then 1 else if tgt L d v then 6 * r - 5 else 6 * r - 3
theorem cwt_rng (L : List (Int × Int)) (d : Nat) (v : Int) (r : Nat) : 1 ≤ cwt L d v r ∧ (1 ≤ r → 6 * r ≤ cwt L d v r + 5 ∧ cwt L d v r + 3 ≤ 6 * r) := by
  unfold cwt
  split
  · exact ⟨Nat.le_refl 1, fun h => by omega⟩
  · split <;> exact ⟨by omega, fun h => by omega⟩
theorem cwt_tgt {L : List (Int × Int)} {d : Nat} {v : Int} {r : Nat} (h : tgt L d v) (hr : 1 ≤ r) : cwt L d v r + 5 = 6 * r := by
  unfold cwt
  rw [if_neg (by omega), if_pos h]
  omega
theorem cwt_not {L : List (Int × Int)} {d : Nat} {v : Int} {r : Nat} (h : ¬ tgt L d v) (hr : 1 ≤ r) : cwt L d v r + 3 = 6 * r := by
  unfold cwt
  rw [if_neg (by omega), if_neg h]
  omega
theorem cwt_0 {L : List (Int × Int)} {d : Nat} {v : Int} : cwt L d v 0 = 1 := by
  unfold cwt
  exact if_pos rfl
