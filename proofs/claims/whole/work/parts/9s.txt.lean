/-! THE START: texts and statics -/
def s_tm (i : Nat) : Term := .string "ForwardingTable$Tape" (ft_strI.getD i 0)
abbrev s_gv : Cond := Jvm.Cond.and given_1 narrow_1
theorem s_ex : ∀ i, i < 5 → Cond.exactly (s_tm i) "java/lang/String" ∈ flatC s_gv := by decide +kernel
theorem s_co : ∀ i, i < 5 → Cond.eq (.field (s_tm i) "java/lang/String" "coder" "B") (.int 0) ∈ flatC s_gv := by decide +kernel
theorem s_ar : ∀ i, i < 5 → Cond.arrayOf (.field (s_tm i) "java/lang/String" "value" "[B") .byte ∈ flatC s_gv := by decide +kernel
theorem s_le : ∀ i, i < 5 → Cond.eq (.length (.field (s_tm i) "java/lang/String" "value" "[B")) (.int (Int32.ofNat (ft_strL.getD i 0))) ∈ flatC s_gv := by decide +kernel
theorem s_el : ∀ i, i < 5 → ∀ j, j < ft_strL.getD i 0 → Cond.eq (.elem (.field (s_tm i) "java/lang/String" "value" "[B") (.int (Int32.ofNat j))) (.int ((ft_strB.getD i []).getD j 0)) ∈ flatC s_gv := by decide +kernel
theorem s_ne : ∀ i, i < 5 → ∀ j, j < 5 → i ≠ j → Cond.not (Cond.eq (s_tm i) (s_tm j)) ∈ flatC s_gv ∨ Cond.not (Cond.eq (s_tm j) (s_tm i)) ∈ flatC s_gv := by decide +kernel
theorem s_ln : ∀ i, i < 5 → ft_strL.getD i 0 < 2 ^ 31 := by decide +kernel
theorem s_sr : ∀ i, i < 5 → Cond.stringRef "ForwardingTable$Tape" (ft_strI.getD i 0) (ft_strT.getD i "") ∈ tables_1 := by decide +kernel
theorem s_cs : Cond.eq (.static "java/lang/String" "COMPACT_STRINGS" "Z") (.int 1) ∈ flatC s_gv := by decide +kernel
theorem s_si : Cond.isRef (.static "jdk/internal/util/Preconditions" "SIOOBE_FORMATTE\x52" "Ljava/util/function/BiFunction;") ∈ flatC s_gv := by decide +kernel
theorem s_E {s : State} {args : Array Value} (hts : ∀ w ∈ lw_tbl, w.before args s = true) (hgv : s_gv.before args s = true) : ∃ adK adV : Nat → Nat, ∀ ad : Nat → Nat, (∀ i, i < 5 → ad (333 + i) = adK i) → (∀ i, i < 5 → ad (338 + i) = adV i) → (∀ q, ft_A ad q → s.heap.size ≤ q) → ft_E ad s s.heap := by
  have g : ∀ (i : Nat) (w : Cond), tables_1[i]? = some w → w.before args s = true := fun i w hi => hts w (List.mem_append_right _ (List.mem_of_getElem? hi))
  have hs := flat_of_before _ hgv
  have hA : ∀ a : Nat, a < s.heap.size → ¬ (fun q : Nat => s.heap.size ≤ q) a := fun a ha q => by
    have q : s.heap.size ≤ a := q
    omega
  obtain ⟨adK, adV, hS, hK⟩ := vk_Sof (args := args) (s := s) (N := 5) (tm := s_tm) (len := ft_strL) (byt := ft_strB) (A := fun q : Nat => s.heap.size ≤ q) s_ln (fun i hi => hs _ (s_ex i hi)) (fun i hi => hs _ (s_co i hi)) (fun i hi => hs _ (s_ar i hi)) (fun i hi => hs _ (s_le i hi)) (fun i hi j hj => hs _ (s_el i hi j hj)) (fun i j hi hj hij => (s_ne i hi j hj hij).elim (fun q => Or.inl (hs _ q)) (fun q => Or.inr (hs _ q))) hA
  have hz1 := va_Zof (args := args) (s := s) (C := "java/lang/String") (n := "COMPACT_STRINGS") (d := "Z") (v := .int 1) (A := fun q : Nat => s.heap.size ≤ q) (g 449 _ (by decide +kernel)) (g 13 _ (by decide +kernel)) (va_eqt (hs _ s_cs)) hA
  have hz2 := va_Zqof (args := args) (s := s) (C := "jdk/internal/util/Preconditions") (n := "SIOOBE_FORMATTE\x52") (d := "Ljava/util/function/BiFunction;") (A := fun q : Nat => s.heap.size ≤ q) (g 465 _ (by decide +kernel)) (g 15 _ (by decide +kernel)) (hs _ s_si) hA
  refine ⟨adK, adV, fun ad h1 h2 h3 => ⟨s_N hts, fun i hi => ?_, ?_, hz1.narrow h3, ?_⟩⟩
  · rw [h1 i hi]
    exact vk_R.of (hts _ (List.mem_append_right _ (s_sr i hi))) (hK i hi)
  · have hS2 := hS.narrow h3
    exact ⟨fun i hi => by
      have := hS2.1 i hi
      rw [← h1 i hi, ← h2 i hi] at this
      exact this, fun i j hi hj e => hS2.2 i j hi hj (by rw [← h1 i hi, ← h1 j hj]; exact e)⟩
  · rcases hz2 with q | ⟨t, q⟩
    · exact ⟨.null, rfl, q.narrow h3⟩
    · exact ⟨.ref t, rfl, q.narrow h3⟩
