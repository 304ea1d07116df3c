/-! THE START: what all numbers are behind the constructors; all references are set -/
def hI : ftH := h_Mo_init (h_FT_init (fun _ _ => 0))
def zI : gZ := z_Mo_init (z_FT_init [])
def S0 : ftS := (8, [], [], [], [0, 0, 0, 0, 0])
def G0 : gS := (S0, [], [], -2)
theorem pl_0 {h : ftH} {a : Nat} (e : h a 2 = 0) : ft_pl h a = [] := by
  unfold ft_pl
  rw [e]
  rfl
theorem ml_0 {h : ftH} {c o : Nat} {x : Int} (e : x = 0) : ft_ml h c o x.toNat = [] := by
  rw [e]
  rfl
theorem gl_0 {h : ftH} {c o : Nat} {x : Int} (e : x = 0) : ft_gl h c o x.toNat = [] := by
  rw [e]
  rfl
theorem gB_0 : gB 0 G0 := by
  refine ⟨⟨⟨by decide, by decide⟩, ⟨lOk_nil, fun q hq => (by cases hq), by decide⟩, ⟨lOk_nil, by decide⟩, ⟨by decide, fun q hq => (by cases hq)⟩, rfl, fun x hx => ?_⟩, fun X hX => (by cases hX)⟩
  have : x = 0 := by
    simp only [G0, S0, List.mem_cons, List.not_mem_nil, or_false, or_self] at hx
    exact hx
  omega
theorem hI_z : hI 2 2 = 0 ∧ hI 5 2 = 0 ∧ hI 8 2 = 0 ∧ hI 1 0 = 8 ∧ hI 23 2 = 0 ∧ hI 23 1 = 0 ∧ hI 0 5 = 0 ∧ hI 294 2 = -1 ∧ hI 113 1 = 0 ∧ hI 0 4 = -2 := by decide +kernel
theorem hI_c : ft_ct hI 11 = [0, 0, 0, 0, 0] := by decide +kernel
theorem hI_m : hI 310 0 = 0 ∧ hI 310 1 = 0 ∧ hI 310 2 = 0 ∧ hI 310 3 = 8 ∧ hI 309 4 = 0 ∧ hI 309 20 = 0 ∧ hI 309 34 = 0 ∧ hI 309 42 = -2 := by decide +kernel
theorem hI_mc : [hI 310 (0 + 4), hI 310 (0 + 5), hI 310 (0 + 6), hI 310 (0 + 7), hI 310 (0 + 8)] = [0, 0, 0, 0, 0] := by decide +kernel
theorem hI_w : wdsI hI := by
  have : ∀ j, j < 30 → hI 331 j = wl.getD j 0 := by decide +kernel
  exact this
theorem cG_0 : cG hI G0 := by
  obtain ⟨a, b, c, d, e, f, g, i, j, k⟩ := hI_z
  refine ⟨⟨⟨?_, ?_⟩, 0, by decide, e, f, by decide, fun d X hX => (by cases hX)⟩, csI_0 g, Or.inl i, ⟨j, by decide, fun j x hx => (by cases hx)⟩, k⟩
  · unfold ft_sz
    show (0 ≤ hI 2 2 ∧ hI 2 2 ≤ 60) ∧ (0 ≤ hI 5 2 ∧ hI 5 2 ≤ 80) ∧ (0 ≤ hI 8 2 ∧ hI 8 2 ≤ 40)
    omega
  · show (hI 1 0, ft_pl hI 2, ft_pl hI 5, ft_pl hI 8, ft_ct hI 11) = S0
    rw [pl_0 a, pl_0 b, pl_0 c, d, hI_c]
    rfl
theorem mG_0 : mG hI G0 := by
  obtain ⟨a, b, c, d, e, f, g, i⟩ := hI_m
  refine ⟨⟨⟨?_, ?_⟩, e, by decide, fun d X hX => (by cases hX)⟩, Or.inl f, ⟨g, by decide, fun j x hx => (by cases hx)⟩, hI_w, i⟩
  · unfold ft_mz
    refine ⟨?_, ?_, ?_, ?_⟩
    · show 0 ≤ hI 310 0 ∧ hI 310 0 ≤ 60
      omega
    · show 0 ≤ hI 310 2 ∧ hI 310 2 ≤ 80
      omega
    · show 0 ≤ hI 310 1 ∧ hI 310 1 ≤ 40
      omega
    · refine ⟨fun k hk => ?_, fun k hk => ?_⟩
      · have hk : (k : Int) < hI 310 0 := hk
        omega
      · have hk : (k : Int) < hI 310 2 := hk
        omega
  · show (hI 310 3, ft_ml hI 310 (0 + 10) (hI 310 0).toNat, ft_ml hI 310 (0 + 270) (hI 310 2).toNat, ft_gl hI 310 (0 + 190) (hI 310 1).toNat, [hI 310 (0 + 4), hI 310 (0 + 5), hI 310 (0 + 6), hI 310 (0 + 7), hI 310 (0 + 8)]) = S0
    rw [ml_0 a, ml_0 c, gl_0 b, d, hI_mc]
    rfl
/-- all references are set -/
def zChk (z : gZ) : Bool := (List.range 333).all fun k => match ft_sh k with
  | some (.inl ci) => (List.range (ft_fk ci).length).all fun j => decide ((ft_fk ci).getD j 0 < 2) || z.contains (k, j)
  | some (.inr q) => decide (q.1 < 4) || (List.range q.2).all fun j => z.contains (k, j)
  | none => false
theorem zI_ok : zChk zI = true := by decide +kernel
theorem zChk_o {z : gZ} (h : zChk z = true) {k ci j t : Nat} (hk : ft_sh k = some (.inl ci)) (hj : (ft_fk ci)[j]? = some t) (ht : ¬ t < 2) : (k, j) ∈ z := by
  have h1 := List.all_eq_true.mp h k (List.mem_range.mpr (ft_sh_lt hk))
  rw [hk] at h1
  have hl : j < (ft_fk ci).length := (List.getElem?_eq_some_iff.mp hj).1
  have h2 := List.all_eq_true.mp h1 j (List.mem_range.mpr hl)
  rw [Bool.or_eq_true, decide_eq_true_eq, List.getD_eq_getElem?_getD, hj] at h2
  rcases h2 with q | q
  · exact absurd q ht
  · exact List.contains_iff_mem.mp q
theorem zChk_a {z : gZ} (h : zChk z = true) {k t N j : Nat} (hk : ft_sh k = some (.inr (t, N))) (hj : j < N) (ht : ¬ t < 4) : (k, j) ∈ z := by
  have h1 := List.all_eq_true.mp h k (List.mem_range.mpr (ft_sh_lt hk))
  rw [hk] at h1
  have h1' : (decide (t < 4) || (List.range N).all fun j => z.contains (k, j)) = true := h1
  rw [Bool.or_eq_true, decide_eq_true_eq] at h1'
  rcases h1' with q | q
  · exact absurd q ht
  · exact List.contains_iff_mem.mp (List.all_eq_true.mp q j (List.mem_range.mpr hj))
theorem arrV_cg {c : ClassId} {N : Nat} {f g : Nat → Value} (h : ∀ j, j < N → f j = g j) : arrV c N f = arrV c N g := by
  unfold arrV
  congr 2
  funext j
  exact h j.val j.isLt
theorem gws_ws {D : va_G} {ad : Nat → Nat} {cA : Nat → ClassId} {h : ftH} {z : gZ} {H : Heap} (hc : zChk z = true) (hP : va_P D ft_cls (gws ad cA h z 333) H) : va_P D ft_cls (ft_ws ad cA h) H := by
  intro k q hk
  have hlt : k < ft_shapes.length := by
    have := (List.getElem?_eq_some_iff.mp hk).1
    simpa [ft_ws] using this
  have hs : ft_sh k = some ft_shapes[k] := List.getElem?_eq_getElem hlt
  rw [ft_ws_get hs] at hk
  cases hk
  have hg := hP k _ (gws_get hs (ft_sh_lt hs))
  revert hs hg
  generalize ft_shapes[k] = sh
  intro hs hg
  rcases sh with ci | ⟨t, N⟩
  · have e : gfl ad h z k ci = ft_flds ad h k ci := by
      unfold gfl ft_flds
      apply List.ext_getElem?
      intro j
      rw [List.getElem?_mapIdx, List.getElem?_mapIdx]
      cases hj : (ft_fk ci)[j]? with
      | none => rfl
      | some t =>
        simp only [Option.map_some]
        congr 1
        by_cases c0 : t = 0
        · rw [if_pos c0, if_pos c0]
        · by_cases c1 : t = 1
          · rw [if_neg c0, if_neg c0, if_pos c1, if_pos c1]
          · rw [if_neg c0, if_neg c0, if_neg c1, if_neg c1, if_pos (zChk_o hc hs hj (by omega))]
    have hg' : va_at D ft_cls (ad k, .inr (ci, gfl ad h z k ci)) H := hg
    rw [e] at hg'
    exact hg'
  · have hg' : H[ad k]? = some (vp_cell (cA t) (N, gar ad h z k t)) := hg
    show H[ad k]? = some (vp_cell (cA t) (N, ft_arr ad h k t))
    rw [hg']
    congr 1
    unfold gar ft_arr
    by_cases c1 : t = 1
    · rw [if_pos c1, if_pos c1]
    · rw [if_neg c1, if_neg c1]
      by_cases c2 : t < 4
      · rw [if_pos c2, if_pos c2]
      · rw [if_neg c2, if_neg c2, vp_cell_q, vp_cell_q]
        exact arrV_cg (fun j hj => by rw [if_pos (zChk_a hc hs hj c2)])
theorem gws_wsD {ad : Nat → Nat} {cA : Nat → ClassId} {h : ftH} {z : gZ} {A : Nat → Prop} (hD : va_D A (gws ad cA h z 333)) : va_D (ft_A ad) (ft_ws ad cA h) ∧ ∀ q, ft_A ad q → A q := by
  have hg : ∀ (k : Nat) (q : Nat × va_E), (ft_ws ad cA h)[k]? = some q → k < ft_shapes.length ∧ ∃ e, (gws ad cA h z 333)[k]? = some (q.1, e) := by
    intro k q hk
    have hlt : k < ft_shapes.length := by
      have := (List.getElem?_eq_some_iff.mp hk).1
      simpa [ft_ws] using this
    have hs : ft_sh k = some ft_shapes[k] := List.getElem?_eq_getElem hlt
    rw [ft_ws_get hs] at hk
    cases hk
    exact ⟨hlt, _, gws_get hs (ft_sh_lt hs)⟩
  have hq : ∀ (k : Nat) (q : Nat × va_E), (ft_ws ad cA h)[k]? = some q → q.1 = ad k := by
    intro k q hk
    have hlt := (hg k q hk).1
    have hs : ft_sh k = some ft_shapes[k] := List.getElem?_eq_getElem hlt
    rw [ft_ws_get hs] at hk
    cases hk
    rfl
  refine ⟨⟨fun i j p q hi hj e => ?_, fun k q hk => ⟨k, (hg k q hk).1, hq k q hk⟩⟩, ?_⟩
  · obtain ⟨-, e1, h1⟩ := hg i p hi
    obtain ⟨-, e2, h2⟩ := hg j q hj
    exact hD.1 i j _ _ h1 h2 e
  · rintro q ⟨k, hk, rfl⟩
    have hs : ft_sh k = some ft_shapes[k] := List.getElem?_eq_getElem hk
    exact hD.2 k _ (gws_get hs (ft_sh_lt hs))
theorem gws_ad {ad ad' : Nat → Nat} {cA : Nat → ClassId} {h : ftH} {z : gZ} {n : Nat} (hz : ∀ q ∈ z, ft_lay q.1 q.2 < n) (ha : ∀ k, k < n → ad' k = ad k) : gws ad' cA h z n = gws ad cA h z n := by
  apply List.ext_getElem?
  intro i
  by_cases c : i < n
  · by_cases c2 : i < ft_shapes.length
    · have hs : ft_sh i = some ft_shapes[i] := List.getElem?_eq_getElem c2
      rw [gws_get hs c, gws_get hs c, ha i c, gcl_ad hz ha]
    · have e : ∀ ad : Nat → Nat, (gws ad cA h z n)[i]? = none := fun ad => by
        apply List.getElem?_eq_none
        simp [gws]
        omega
      rw [e, e]
  · rw [gws_none (by omega), gws_none (by omega)]
