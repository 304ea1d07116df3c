/-! rows of rows in a growing world -/
theorem gcl_z {ad : Nat → Nat} {cA : Nat → ClassId} {h : ftH} {z z' : gZ} {k : Nat} {sh : Nat ⊕ Nat × Nat} (hz : ∀ j, (k, j) ∈ z' ↔ (k, j) ∈ z) : gcl ad cA h z' k sh = gcl ad cA h z k sh := by
  rcases sh with ci | q
  · simp only [gcl, gfl, hz]
  · simp only [gcl, gar, hz]
theorem gRw_mem {n N k j : Nat} {z : gZ} : (k, j) ∈ (List.range N).map (fun j => (n, j)) ++ z ↔ (k = n ∧ j < N) ∨ (k, j) ∈ z := by
  simp only [List.mem_append, List.mem_map, List.mem_range, Prod.mk.injEq]
  constructor
  · rintro (⟨i, h1, h2, h3⟩ | q)
    · exact Or.inl ⟨h2.symm, h3 ▸ h1⟩
    · exact Or.inr q
  · rintro (⟨h1, h2⟩ | q)
    · exact Or.inl ⟨j, h2, h1.symm, rfl⟩
    · exact Or.inr q
theorem gws_rows {ad ad' : Nat → Nat} {cA : Nat → ClassId} {h : ftH} {z : gZ} {n N M t : Nat} (hto : ft_sh n = some (.inr (5 + t, N))) (hrow : ∀ i, i < N → ft_sh (n + 1 + i) = some (.inr (t, M))) (hlay : ∀ i, i < N → ft_lay n i = n + 1 + i) (ht : t < 2) (hz : gzk h z n) (ha : ∀ k, k < n → ad' k = ad k) :
    gws ad' cA h ((List.range N).map (fun j => (n, j)) ++ z) (n + 1 + N) = (gws ad cA h z n ++ [(ad' n, .inl (cA (5 + t), N, .inr (.inr (.inr (.inr (fun i => if i < N then some (ad' (n + 1 + i)) else none))))))]) ++ (List.range N).map (fun i => (ad' (n + 1 + i), .inl (cA t, M, if t = 1 then .inr (.inl fun _ => 0) else .inl fun _ => 0))) := by
  have hn : n < ft_shapes.length := by
    unfold ft_sh at hto
    exact (List.getElem?_eq_some_iff.mp hto).1
  have hlen : (gws ad cA h z n).length = n := by simp [gws]; omega
  have hnz : ∀ k j, n ≤ k → (k, j) ∉ z := fun k j hk q => by have := (hz.2.2 _ q).1; omega
  apply List.ext_getElem?
  intro i
  by_cases c1 : i < n
  · have hs : ft_sh i = some ft_shapes[i] := List.getElem?_eq_getElem (by omega)
    rw [gws_get hs (by omega), List.getElem?_append_left (by simp [hlen] <;> omega), List.getElem?_append_left (by omega), gws_get hs c1, ha i c1, gcl_z (z := z) (fun j => ⟨fun w => (gRw_mem.mp w).elim (fun w => absurd w.1 (by omega)) id, fun w => gRw_mem.mpr (Or.inr w)⟩), gcl_ad (fun q hq => (hz.2.2 q hq).2) ha]
  · by_cases c2 : i = n
    · subst c2
      rw [gws_get hto (by omega), List.getElem?_append_left (by simp [hlen]), List.getElem?_append_right (by omega), hlen, Nat.sub_self]
      show some (ad' i, gcl ad' cA h _ i (.inr (5 + t, N))) = some _
      congr 2
      show Sum.inl (cA (5 + t), N, gar ad' h _ i (5 + t)) = _
      unfold gar
      rw [if_neg (by omega), if_neg (by omega)]
      congr 7
      funext j
      by_cases q : j < N
      · rw [if_pos (gRw_mem.mpr (Or.inl ⟨rfl, q⟩)), if_pos q, hlay j q]
      · rw [if_neg q, if_neg]
        intro w
        rcases gRw_mem.mp w with w | w
        · exact q w.2
        · exact hnz i j (Nat.le_refl i) w
    · by_cases c3 : i < n + 1 + N
      · obtain ⟨j, rfl⟩ : ∃ j, i = n + 1 + j := ⟨i - (n + 1), by omega⟩
        rw [gws_get (hrow j (by omega)) c3, List.getElem?_append_right (by simp [hlen] <;> omega)]
        have e9 : n + 1 + j - (gws ad cA h z n ++ [(ad' n, (.inl (cA (5 + t), N, .inr (.inr (.inr (.inr (fun i => if i < N then some (ad' (n + 1 + i)) else none))))) : va_E))]).length = j := by
          rw [List.length_append, hlen]
          simp
        rw [e9, List.getElem?_map, List.getElem?_range (by omega)]
        show some (ad' (n + 1 + j), gcl ad' cA h _ (n + 1 + j) (.inr (t, M))) = some (ad' (n + 1 + j), _)
        congr 2
        show Sum.inl (cA t, M, gar ad' h _ (n + 1 + j) t) = _
        rw [gar_new (fun i => hz.2.1 _ (by omega) i) (fun q hq e => by
          obtain ⟨a, b⟩ := q
          rcases gRw_mem.mp hq with w | w
          · have e : a = n + 1 + j := e
            omega
          · have e : a = n + 1 + j := e
            exact hnz a b (by omega) w)]
        congr 3
        by_cases q : t = 1
        · rw [if_pos q, if_pos q]
        · rw [if_neg q, if_neg q, if_pos (by omega)]
      · rw [gws_none (by omega), List.getElem?_append_right (by simp [hlen] <;> omega)]
        exact (List.getElem?_eq_none (by simp [hlen] <;> omega)).symm
