/-! further rules: places that are written numbers, truth values -/
theorem ft_if0 {C : Prop} [Decidable C] : (if C then (1 : Int) else 0) = 0 ↔ ¬ C := by split <;> simp_all
theorem ft_if1 {C : Prop} [Decidable C] : ¬ ((if C then (1 : Int) else 0) = 0) ↔ C := by split <;> simp_all
theorem ft_if01 {C : Prop} [Decidable C] : (if C then (1 : Int) else 0) = 0 ∨ (if C then (1 : Int) else 0) = 1 := by split <;> simp
/-- the byte at the reference's spot, or -1 -/
def m_here (h : ftH) : Int := if h 309 36 < h 309 34 then h 330 (h 309 36).toNat else -1
section FVJ
variable {K : ftM} {pc pc' : Nat} {L : List (Option ftV)} {st : List ftV} {h : ftH} {R : Option ftV → ftH → Prop} {a n j : Nat} {i z : Int}
theorem fv_land32 {x : Int} (hd : decode K.2.1 pc = .ok (.land, 1)) (hp : pc + 1 = pc') (k : ft_V K pc' L (.inr (.inl (pUn x)) :: st) h R) : ft_V K pc L (.inr (.inl 4294967295) :: .inr (.inl x) :: st) h R :=
  fv_land hd hp (by rw [ft_and32]; exact k)
theorem fv_ialdj (hd : decode K.2.1 pc = .ok (.iaload, 1)) (hp : pc + 1 = pc') (ha : ft_sh a = some (.inr (0, n))) (hi : 0 ≤ i ∧ i < (n : Int)) (hj : i.toNat = j) (kk : ft_V K pc' L (.inl (h a j) :: st) h R) : ft_V K pc L (.inl i :: .inr (.inr a) :: st) h R := fv_iald hd hp ha hi (by rw [hj]; exact kk)
theorem fv_baldj (hd : decode K.2.1 pc = .ok (.baload, 1)) (hp : pc + 1 = pc') (ha : ft_sh a = some (.inr (2, n))) (hi : 0 ≤ i ∧ i < (n : Int)) (hj : i.toNat = j) (kk : ft_V K pc' L (.inl (h a j) :: st) h R) : ft_V K pc L (.inl i :: .inr (.inr a) :: st) h R := fv_bald hd hp ha hi (by rw [hj]; exact kk)
theorem fv_zaldj (hd : decode K.2.1 pc = .ok (.baload, 1)) (hp : pc + 1 = pc') (ha : ft_sh a = some (.inr (3, n))) (hi : 0 ≤ i ∧ i < (n : Int)) (hj : i.toNat = j) (kk : ft_V K pc' L (.inl (h a j) :: st) h R) : ft_V K pc L (.inl i :: .inr (.inr a) :: st) h R := fv_zald hd hp ha hi (by rw [hj]; exact kk)
theorem fv_laldj (hd : decode K.2.1 pc = .ok (.laload, 1)) (hp : pc + 1 = pc') (ha : ft_sh a = some (.inr (1, n))) (hi : 0 ≤ i ∧ i < (n : Int)) (hj : i.toNat = j) (kk : ft_V K pc' L (.inr (.inl (h a j)) :: st) h R) : ft_V K pc L (.inl i :: .inr (.inr a) :: st) h R := fv_lald hd hp ha hi (by rw [hj]; exact kk)
theorem fv_iastj (hd : decode K.2.1 pc = .ok (.iastore, 1)) (hp : pc + 1 = pc') (ha : ft_sh a = some (.inr (0, n))) (hi : 0 ≤ i ∧ i < (n : Int)) (hj : i.toNat = j) (kk : ft_V K pc' L st (ft_hs h a j z) R) : ft_V K pc L (.inl z :: .inl i :: .inr (.inr a) :: st) h R := fv_iast hd hp ha hi (by rw [hj]; exact kk)
theorem fv_lastj (hd : decode K.2.1 pc = .ok (.lastore, 1)) (hp : pc + 1 = pc') (ha : ft_sh a = some (.inr (1, n))) (hi : 0 ≤ i ∧ i < (n : Int)) (hj : i.toNat = j) (kk : ft_V K pc' L st (ft_hs h a j z) R) : ft_V K pc L (.inr (.inl z) :: .inl i :: .inr (.inr a) :: st) h R := fv_last hd hp ha hi (by rw [hj]; exact kk)
theorem fv_bastj (hd : decode K.2.1 pc = .ok (.bastore, 1)) (hp : pc + 1 = pc') (ha : ft_sh a = some (.inr (2, n))) (hi : 0 ≤ i ∧ i < (n : Int)) (hj : i.toNat = j) (kk : ft_V K pc' L st (ft_hs h a j (ft_i2b z)) R) : ft_V K pc L (.inl z :: .inl i :: .inr (.inr a) :: st) h R := fv_bast hd hp ha hi (by rw [hj]; exact kk)
theorem fv_zastj (hd : decode K.2.1 pc = .ok (.bastore, 1)) (hp : pc + 1 = pc') (ha : ft_sh a = some (.inr (3, n))) (hi : 0 ≤ i ∧ i < (n : Int)) (hj : i.toNat = j) (hz : z = 0 ∨ z = 1) (kk : ft_V K pc' L st (ft_hs h a j z) R) : ft_V K pc L (.inl z :: .inl i :: .inr (.inr a) :: st) h R := fv_zast hd hp ha hi hz (by rw [hj]; exact kk)
end FVJ
