/-! PURE: lost hits under decisions -/
def okD (c : Nat → Int) (D : List (Nat × Bool)) : Prop := ∀ x ∈ D, (c x.1 = 1 → x.2 = true) ∧ (c x.1 = 0 → x.2 = false)
theorem okD_app {c : Nat → Int} {D E : List (Nat × Bool)} : okD c (D ++ E) ↔ okD c D ∧ okD c E := by
  unfold okD
  constructor
  · intro h; exact ⟨fun x hx => h x (List.mem_append_left _ hx), fun x hx => h x (List.mem_append_right _ hx)⟩
  · rintro ⟨h1, h2⟩ x hx
    rcases List.mem_append.mp hx with q | q
    · exact h1 x q
    · exact h2 x q
theorem okD_cons {c : Nat → Int} {e : Nat} {b : Bool} {D : List (Nat × Bool)} : okD c ((e, b) :: D) ↔ ((c e = 1 → b = true) ∧ (c e = 0 → b = false)) ∧ okD c D := by
  unfold okD
  constructor
  · intro h; exact ⟨h _ List.mem_cons_self, fun x hx => h x (List.mem_cons_of_mem _ hx)⟩
  · rintro ⟨h1, h2⟩ x hx
    rcases List.mem_cons.mp hx with q | q
    · rw [q]; exact h1
    · exact h2 x q
def vF (E : List (Int × Int)) (ht c : Nat → Int) (m : Nat) (e : Int) (k p : Nat) (x : Int) : Prop := ∃ D, cF E.length (parI E) m e k p D ∧ okD c D ∧ x = lD ht D
def vE (E : List (Int × Int)) (ht c : Nat → Int) (m e k p : Nat) (x : Int) : Prop := (k = 1 ∧ c e ≠ 0 ∧ ∃ q, vF E ht c m (e : Int) 1 q x ∧ p = q + 1) ∨ (k = 0 ∧ c e ≠ 1 ∧ ∃ y, vF E ht c m (e : Int) 0 p y ∧ x = ht e + y)
/-- an entry under a parent that is kept or not -/
def vU (E : List (Int × Int)) (ht c : Nat → Int) (m i k p : Nat) (x : Int) : Prop := vE E ht c m i 1 p x ∨ ∃ q, vE E ht c m i 0 q x ∧ p = q + k
def vP (V W : Nat → Int → Prop) (p : Nat) (x : Int) : Prop := ∃ a y b z, V a y ∧ W b z ∧ p = a + b ∧ x = y + z
theorem lD_cons {ht : Nat → Int} {e : Nat} {b : Bool} {D : List (Nat × Bool)} : lD ht ((e, b) :: D) = (if b = true then 0 else ht e) + lD ht D := by
  unfold lD
  rw [List.map_cons, List.sum_cons]
theorem vU_iff {E : List (Int × Int)} {ht c : Nat → Int} {m i k p : Nat} {x : Int} : vU E ht c m i k p x ↔ ∃ D, cO E.length (parI E) m i k p D ∧ okD c D ∧ x = lD ht D := by
  constructor
  · rintro ((⟨-, h1, q, ⟨D, d1, d2, d3⟩, h2⟩ | ⟨h0, -⟩) | ⟨q, h0, h3⟩)
    · exact ⟨(i, true) :: D, ⟨q, D, Or.inl ⟨d1, h2, rfl⟩⟩, okD_cons.mpr ⟨⟨fun _ => rfl, fun t => absurd t h1⟩, d2⟩, by rw [lD_cons, if_pos rfl, d3]; omega⟩
    · exact absurd h0 (by omega)
    · rcases h0 with ⟨h0, -⟩ | ⟨-, h1, y, ⟨D, d1, d2, d3⟩, h2⟩
      · omega
      · exact ⟨(i, false) :: D, ⟨q, D, Or.inr ⟨d1, h3, rfl⟩⟩, okD_cons.mpr ⟨⟨fun t => absurd t h1, fun _ => rfl⟩, d2⟩, by rw [lD_cons, if_neg (by decide), h2, d3]⟩
  · rintro ⟨D, ⟨q, D2, ⟨h1, h2, h3⟩ | ⟨h1, h2, h3⟩⟩, d2, d3⟩
    · rw [h3] at d2 d3
      have o := okD_cons.mp d2
      rw [lD_cons, if_pos rfl] at d3
      exact Or.inl (Or.inl ⟨rfl, (fun t => by have := o.1.2 t; cases this), q, ⟨D2, h1, o.2, by omega⟩, h2⟩)
    · rw [h3] at d2 d3
      have o := okD_cons.mp d2
      rw [lD_cons, if_neg (by decide)] at d3
      exact Or.inr ⟨q, Or.inr ⟨rfl, (fun t => by have := o.1.1 t; cases this), _, ⟨D2, h1, o.2, rfl⟩, d3⟩, h2⟩
theorem vF_hit {E : List (Int × Int)} {ht c : Nat → Int} {m i : Nat} (hi : i = E.length - (m + 1)) {e : Int} (he : parI E i = e) {k p : Nat} {x : Int} : vF E ht c (m + 1) e k p x ↔ vP (vF E ht c m e k) (vU E ht c m i k) p x := by
  have hit : parI E (E.length - (m + 1)) = e := by rw [← hi]; exact he
  constructor
  · rintro ⟨D, d1, d2, d3⟩
    obtain ⟨p1, D1, p2, D2, h1, h2, h3, h4⟩ := (cF_hit hit).mp d1
    rw [← hi] at h2
    rw [h4] at d2 d3
    have o := okD_app.mp d2
    rw [lD_app] at d3
    exact ⟨p1, lD ht D1, p2, lD ht D2, ⟨D1, h1, o.2, rfl⟩, vU_iff.mpr ⟨D2, h2, o.1, rfl⟩, h3, by omega⟩
  · rintro ⟨p1, y, p2, z, ⟨D1, a1, a2, a3⟩, hu, h3, h4⟩
    obtain ⟨D2, b1, b2, b3⟩ := vU_iff.mp hu
    refine ⟨D2 ++ D1, (cF_hit hit).mpr ⟨p1, D1, p2, D2, a1, by rw [← hi]; exact b1, h3, rfl⟩, okD_app.mpr ⟨b2, a2⟩, by rw [lD_app]; omega⟩
theorem vF_miss {E : List (Int × Int)} {ht c : Nat → Int} {m i : Nat} (hi : i = E.length - (m + 1)) {e : Int} (he : parI E i ≠ e) {k p : Nat} {x : Int} : vF E ht c (m + 1) e k p x ↔ vF E ht c m e k p x := by
  have hne : parI E (E.length - (m + 1)) ≠ e := by rw [← hi]; exact he
  unfold vF
  constructor
  · rintro ⟨D, d1, d2⟩; exact ⟨D, (cF_miss hne).mp d1, d2⟩
  · rintro ⟨D, d1, d2⟩; exact ⟨D, (cF_miss hne).mpr d1, d2⟩
theorem vE_hit {E : List (Int × Int)} {ht c : Nat → Int} {m i : Nat} (hi : i = E.length - (m + 1)) {e : Nat} (he : parI E i = (e : Int)) {k p : Nat} {x : Int} : vE E ht c (m + 1) e k p x ↔ vP (vE E ht c m e k) (vU E ht c m i k) p x := by
  constructor
  · rintro (⟨h0, h1, q, h2, h3⟩ | ⟨h0, h1, y, h2, h3⟩)
    · obtain ⟨a, y, b, z, g1, g2, g3, g4⟩ := (vF_hit hi he).mp h2
      subst h0
      exact ⟨a + 1, y, b, z, Or.inl ⟨rfl, h1, a, g1, rfl⟩, g2, by omega, g4⟩
    · obtain ⟨a, y', b, z, g1, g2, g3, g4⟩ := (vF_hit hi he).mp h2
      subst h0
      exact ⟨a, ht e + y', b, z, Or.inr ⟨rfl, h1, y', g1, rfl⟩, g2, g3, by omega⟩
  · rintro ⟨a, y, b, z, ⟨h0, h1, q, h2, h3⟩ | ⟨h0, h1, y', h2, h3⟩, g2, g3, g4⟩
    · subst h0
      exact Or.inl ⟨rfl, h1, q + b, (vF_hit hi he).mpr ⟨q, y, b, z, h2, g2, rfl, g4⟩, by omega⟩
    · subst h0
      exact Or.inr ⟨rfl, h1, y' + z, (vF_hit hi he).mpr ⟨a, y', b, z, h2, g2, g3, rfl⟩, by omega⟩
theorem vE_miss {E : List (Int × Int)} {ht c : Nat → Int} {m i : Nat} (hi : i = E.length - (m + 1)) {e : Nat} (he : parI E i ≠ (e : Int)) {k p : Nat} {x : Int} : vE E ht c (m + 1) e k p x ↔ vE E ht c m e k p x := by
  unfold vE
  constructor
  · rintro (⟨h0, h1, q, h2, h3⟩ | ⟨h0, h1, y, h2, h3⟩)
    · exact Or.inl ⟨h0, h1, q, (vF_miss hi he).mp h2, h3⟩
    · exact Or.inr ⟨h0, h1, y, (vF_miss hi he).mp h2, h3⟩
  · rintro (⟨h0, h1, q, h2, h3⟩ | ⟨h0, h1, y, h2, h3⟩)
    · exact Or.inl ⟨h0, h1, q, (vF_miss hi he).mpr h2, h3⟩
    · exact Or.inr ⟨h0, h1, y, (vF_miss hi he).mpr h2, h3⟩
/-- the least of a set of numbers of lost hits -/
def mV (V : Int → Prop) (v : Int) : Prop := (v = 1000000000 ∧ ∀ x, ¬ V x) ∨ (V v ∧ ∀ x, V x → v ≤ x)
def bV (V : Int → Prop) : Prop := ∀ x, V x → 0 ≤ x ∧ x ≤ 40000000
theorem mV_congr {V W : Int → Prop} {v : Int} (h : ∀ x, V x ↔ W x) (hm : mV V v) : mV W v := by
  rcases hm with ⟨h1, h2⟩ | ⟨h1, h2⟩
  · exact Or.inl ⟨h1, fun x q => h2 x ((h x).mpr q)⟩
  · exact Or.inr ⟨(h v).mp h1, fun x q => h2 x ((h x).mpr q)⟩
theorem mV_rng {V : Int → Prop} (hb : bV V) {v : Int} (hm : mV V v) : 0 ≤ v ∧ v ≤ 1000000000 ∧ (v < 1000000000 → v ≤ 40000000) := by
  rcases hm with ⟨h1, h2⟩ | ⟨h1, h2⟩
  · omega
  · have := hb v h1; omega
theorem mV_or {V W : Int → Prop} (hV : bV V) (hW : bV W) {v w : Int} (h : mV V v) (h' : mV W w) : (w ≤ v → mV (fun x => V x ∨ W x) w) ∧ (¬ w ≤ v → mV (fun x => V x ∨ W x) v) := by
  rcases h with ⟨h1, h2⟩ | ⟨h1, h2⟩
  · rcases h' with ⟨g1, g2⟩ | ⟨g1, g2⟩
    · exact ⟨fun _ => Or.inl ⟨g1, fun x q => q.elim (h2 x) (g2 x)⟩, fun _ => Or.inl ⟨h1, fun x q => q.elim (h2 x) (g2 x)⟩⟩
    · have := hW w g1
      exact ⟨fun _ => Or.inr ⟨Or.inr g1, fun x q => q.elim (fun t => absurd t (h2 x)) (g2 x)⟩, fun c => by omega⟩
  · have := hV v h1
    rcases h' with ⟨g1, g2⟩ | ⟨g1, g2⟩
    · exact ⟨fun c => by omega, fun _ => Or.inr ⟨Or.inl h1, fun x q => q.elim (h2 x) (fun t => absurd t (g2 x))⟩⟩
    · refine ⟨fun c => Or.inr ⟨Or.inr g1, fun x q => ?_⟩, fun c => Or.inr ⟨Or.inl h1, fun x q => ?_⟩⟩
      · rcases q with q | q
        · have := h2 x q; omega
        · exact g2 x q
      · rcases q with q | q
        · exact h2 x q
        · have := g2 x q; omega
theorem mV_pair {V W : Int → Prop} {v w : Int} (hV : bV V) (hW : bV W) (h : mV V v) (h' : mV W w) : (v < 1000000000 ∧ w < 1000000000 ∧ mV (fun x => ∃ y z, V y ∧ W z ∧ x = y + z) (v + w)) ∨ ((v = 1000000000 ∨ w = 1000000000) ∧ ∀ x, ¬ ∃ y z, V y ∧ W z ∧ x = y + z) := by
  rcases h with ⟨h1, h2⟩ | ⟨h1, h2⟩
  · exact Or.inr ⟨Or.inl h1, fun x => by rintro ⟨y, z, q, -⟩; exact h2 y q⟩
  · rcases h' with ⟨g1, g2⟩ | ⟨g1, g2⟩
    · exact Or.inr ⟨Or.inr g1, fun x => by rintro ⟨y, z, -, q, -⟩; exact g2 z q⟩
    · have := hV v h1
      have := hW w g1
      refine Or.inl ⟨by omega, by omega, Or.inr ⟨⟨v, w, h1, g1, rfl⟩, ?_⟩⟩
      rintro x ⟨y, z, q1, q2, q3⟩
      have := h2 y q1
      have := g2 z q2
      omega
theorem vF_b {E : List (Int × Int)} {ht c : Nat → Int} (hn : ∀ i, 0 ≤ ht i) (hU : sm ht E.length ≤ 40000000) {m : Nat} (hm : m ≤ E.length) {e : Int} (he : e < ((E.length - m : Nat) : Int)) (k p : Nat) : bV (vF E ht c m e k p) := by
  rintro x ⟨D, d1, -, d3⟩
  have hp : ∀ i, parI E i < i := fun i => (parI_rng E i).2
  have h1 := hD_cap hn (cF_dom d1) (dom_nodup hp hm he) (n := E.length) (fun y hy => (dom_ge hm hy).2)
  have := (hD_nn hn D).2
  omega
