/-! TOKENS, pure: of a tape T, the token whose reading begins at p -/
def tb (T : List Int) (j : Nat) : Int := T.getD j (-1)
def isSp (x : Int) : Bool := decide (x = 32) || decide (x = 10)
def isLt (x : Int) : Bool := decide (97 ≤ x) && decide (x ≤ 122)
def isDg (x : Int) : Bool := decide (48 ≤ x) && decide (x ≤ 57)
def spn (f : Int → Bool) (T : List Int) : Nat → Nat → Nat
  | 0, p => p
  | n + 1, p => if f (tb T p) = true then spn f T n (p + 1) else p
def sp (f : Int → Bool) (T : List Int) (p : Nat) : Nat := spn f T (T.length - p) p
theorem tb_end {T : List Int} {p : Nat} (h : T.length ≤ p) : tb T p = -1 := by
  unfold tb
  rw [List.getD_eq_getElem?_getD, List.getElem?_eq_none h]
  rfl
theorem tb_get {T : List Int} {p : Nat} (h : p < T.length) : T[p]? = some (tb T p) := by
  unfold tb
  rw [List.getD_eq_getElem?_getD, List.getElem?_eq_getElem h]
  rfl
theorem sp_step {f : Int → Bool} (hf : f (-1) = false) (T : List Int) (p : Nat) : sp f T p = if f (tb T p) = true then sp f T (p + 1) else p := by
  unfold sp
  by_cases h : p < T.length
  · rw [show T.length - p = (T.length - (p + 1)) + 1 by omega, spn]
  · rw [show T.length - p = 0 by omega, spn, tb_end (by omega), hf]
    rfl
theorem spn_ge (f : Int → Bool) (T : List Int) : ∀ n p, p ≤ spn f T n p ∧ spn f T n p ≤ p + n
  | 0, p => ⟨Nat.le_refl p, Nat.le_refl p⟩
  | n + 1, p => by
    rw [spn]
    split
    · have := spn_ge f T n (p + 1)
      omega
    · omega
theorem sp_ge (f : Int → Bool) (T : List Int) (p : Nat) : p ≤ sp f T p := (spn_ge f T _ p).1
theorem sp_le (f : Int → Bool) {T : List Int} {p : Nat} (h : p ≤ T.length) : sp f T p ≤ T.length := by
  have := (spn_ge f T (T.length - p) p).2
  unfold sp
  omega
theorem spn_in (f : Int → Bool) (T : List Int) : ∀ n p j, p ≤ j → j < spn f T n p → f (tb T j) = true
  | 0, p, j, h1, h2 => by rw [spn] at h2; omega
  | n + 1, p, j, h1, h2 => by
    rw [spn] at h2
    split at h2
    · next c =>
      by_cases e : j = p
      · rw [e]; exact c
      · exact spn_in f T n (p + 1) j (by omega) h2
    · omega
theorem sp_in {f : Int → Bool} {T : List Int} {p j : Nat} (h1 : p ≤ j) (h2 : j < sp f T p) : f (tb T j) = true := spn_in f T _ p j h1 h2
theorem f_sp : isSp (-1) = false := rfl
theorem f_lt : isLt (-1) = false := rfl
theorem f_dg : isDg (-1) = false := rfl
theorem isSp_iff {x : Int} : isSp x = true ↔ x = 32 ∨ x = 10 := by simp [isSp]
theorem isLt_iff {x : Int} : isLt x = true ↔ 97 ≤ x ∧ x ≤ 122 := by simp [isLt]
theorem isDg_iff {x : Int} : isDg x = true ↔ 48 ≤ x ∧ x ≤ 57 := by simp [isDg]
def dgN (T : List Int) (a : Nat) : Nat → Int
  | 0 => 0
  | k + 1 => 10 * dgN T a k + tb T (a + k) - 48
def wdT (T : List Int) (a b : Nat) : List Int := (List.range (b - a)).map fun j => tb T (a + j)
/-- where the token begins, and ends -/
def tkS (T : List Int) (p : Nat) : Nat := sp isSp T p
def tkE (T : List Int) (p : Nat) : Nat := if T.length ≤ tkS T p then tkS T p else if isLt (tb T (tkS T p)) = true then sp isLt T (tkS T p) else if isDg (tb T (tkS T p)) = true then sp isDg T (tkS T p) else tkS T p + 1
/-- its kind, as the class has it -/
def tkK (T : List Int) (p : Nat) : Int := if T.length ≤ tkS T p then 0 else if isLt (tb T (tkS T p)) = true then wkI (wdT T (tkS T p) (tkE T p)) else if isDg (tb T (tkS T p)) = true then (if tkE T p ≤ tkS T p + 3 then 2 else 1) else if tb T (tkS T p) = 59 ∨ tb T (tkS T p) = 46 ∨ tb T (tkS T p) = 47 then tb T (tkS T p) else 1
def tkN (T : List Int) (p : Nat) : Int := dgN T (tkS T p) (min 3 (tkE T p - tkS T p))
theorem tkS_le {T : List Int} {p : Nat} (h : p ≤ T.length) : p ≤ tkS T p ∧ tkS T p ≤ T.length := ⟨sp_ge _ _ _, sp_le _ h⟩
theorem tkE_le {T : List Int} {p : Nat} (h : p ≤ T.length) : tkS T p ≤ tkE T p ∧ tkE T p ≤ T.length := by
  have h1 := tkS_le h
  unfold tkE
  split
  · omega
  · split
    · exact ⟨sp_ge _ _ _, sp_le _ h1.2⟩
    · split
      · exact ⟨sp_ge _ _ _, sp_le _ h1.2⟩
      · omega
theorem dgN_rng {T : List Int} {a : Nat} : ∀ k, k ≤ 3 → (∀ j, j < k → isDg (tb T (a + j)) = true) → 0 ≤ dgN T a k ∧ dgN T a k < 10 ^ k
  | 0, _, _ => by simp [dgN]
  | k + 1, hk, h => by
    have h1 := dgN_rng k (by omega) (fun j hj => h j (by omega))
    have h2 := isDg_iff.mp (h k (by omega))
    rw [dgN, Int.pow_succ]
    omega
theorem wkI_rng (w : List Int) : (3 ≤ wkI w ∧ wkI w ≤ 7) ∨ wkI w = 1 := by
  unfold wkI
  (repeat' split) <;> omega
theorem tkN_rng {T : List Int} {p : Nat} (h : tkK T p = 2) : 0 ≤ tkN T p ∧ tkN T p < 1000 := by
  unfold tkK at h
  split at h
  · omega
  · split at h
    · have := wkI_rng (wdT T (tkS T p) (tkE T p))
      omega
    · split at h
      · next c1 c2 c3 =>
        have he : tkE T p = sp isDg T (tkS T p) := by unfold tkE; rw [if_neg c1, if_neg c2, if_pos c3]
        have := dgN_rng (T := T) (a := tkS T p) (min 3 (tkE T p - tkS T p)) (by omega) (fun j hj => sp_in (f := isDg) (p := tkS T p) (by omega) (by rw [← he]; omega))
        unfold tkN
        have h3 : (10 : Int) ^ (min 3 (tkE T p - tkS T p)) ≤ 1000 := by
          have : ∀ k : Nat, k ≤ 3 → (10 : Int) ^ k ≤ 1000 := by decide
          exact this _ (by omega)
        omega
      · split at h
        · omega
        · omega
/-- the bytes as the class holds them -/
theorem tb_cls {h : ftH} {T : List Int} (hT : tpC h T) {j : Nat} (hj : j < T.length) : (h 114 j = tb T j ∧ 0 ≤ tb T j ∧ tb T j < 128) ∨ (h 114 j < 0 ∧ 128 ≤ tb T j ∧ tb T j < 256) := by
  obtain ⟨h1, h2⟩ := hT.2.2 j _ (tb_get hj)
  by_cases c : tb T j < 128
  · refine Or.inl ⟨?_, h1.1, c⟩
    rw [h2, Int.bmod_def, if_pos (by omega)]
    omega
  · refine Or.inr ⟨?_, by omega, h1.2⟩
    rw [h2, Int.bmod_def, if_neg (by omega)]
    omega
theorem tb_ref {h : ftH} {T : List Int} (hT : tpM h T) {j : Nat} (hj : j < T.length) : h 330 j = tb T j ∧ 0 ≤ tb T j ∧ tb T j < 256 := by
  obtain ⟨h1, h2⟩ := hT.2.2 j _ (tb_get hj)
  exact ⟨h2, h1⟩
