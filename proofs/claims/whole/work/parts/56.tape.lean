/-! the tape on both sides: append, truncate -/
def tpC (h : ftH) (T : List Int) : Prop := h 113 1 = (T.length : Int) ∧ T.length ≤ 2200 ∧ ∀ j x, T[j]? = some x → (0 ≤ x ∧ x < 256) ∧ h 114 j = Int.bmod x 256
def tpM (h : ftH) (T : List Int) : Prop := h 309 34 = (T.length : Int) ∧ T.length ≤ 2200 ∧ ∀ j x, T[j]? = some x → (0 ≤ x ∧ x < 256) ∧ h 330 j = x
theorem ft_sh31 {s : Int} (h0 : 0 ≤ s) (h1 : s < 32) : ((Int32.ofInt s).toUInt32 &&& Int32.toUInt32 31).toNat = s.toNat := by
  have : ∀ k : Nat, k < 32 → ((Int32.ofInt k).toUInt32 &&& Int32.toUInt32 31).toNat = k := by decide +kernel
  have := this s.toNat (by omega)
  rwa [Int.toNat_of_nonneg h0] at this
theorem ft_ushr_eq {x s : Int} (h0 : 0 ≤ s) (h1 : s < 32) : ft_ushr x s = Int.bmod (pUn x / 2 ^ s.toNat) 4294967296 := by
  unfold ft_ushr
  have e1 : (Int32.ofInt x).toUInt32.toNat = (pUn x).toNat := by
    show (Int32.ofInt x).toBitVec.toNat = _
    rw [ft_bvI, ft_bv32]
  have e : ((Int32.ofInt x).toUInt32 >>> ((Int32.ofInt s).toUInt32 &&& Int32.toUInt32 31)).toNat = (pUn x).toNat / 2 ^ s.toNat := by
    rw [UInt32.toNat_shiftRight, ft_sh31 h0 h1, e1, Nat.mod_eq_of_lt (by omega), Nat.shiftRight_eq_div_pow]
  show (((Int32.ofInt x).toUInt32 >>> ((Int32.ofInt s).toUInt32 &&& Int32.toUInt32 31)).toBitVec).toInt = _
  rw [BitVec.toInt_eq_toNat_bmod]
  have e2 : (((Int32.ofInt x).toUInt32 >>> ((Int32.ofInt s).toUInt32 &&& Int32.toUInt32 31)).toBitVec).toNat = (pUn x).toNat / 2 ^ s.toNat := e
  rw [e2]
  have := pUn_rng x
  obtain ⟨a, ha⟩ := Int.eq_ofNat_of_zero_le this.1
  rw [ha]
  simp
theorem ft_byteC {x s : Int} (h0 : 0 ≤ s) (h1 : s < 32) : ft_i2b (ft_i2b (ft_ushr x s)) = Int.bmod (pUn x / 2 ^ s.toNat % 256) 256 := by
  rw [ft_i2b_eq, ft_i2b_eq, ft_ushr_eq h0 h1, Int.bmod_bmod]
  rw [Int.bmod_bmod_of_dvd (by decide)]
  rw [show (256 : Int) = ((256 : Nat) : Int) from rfl, Int.emod_bmod]
theorem ft_byteM {x s : Int} (hx : ft_in x) (h0 : 0 ≤ s) (h1 : s ≤ 24) : ft_and (ft_shr x s) 255 = pUn x / 2 ^ s.toNat % 256 := by
  have e := ft_and_mask 8 (by omega) (ft_shr x s)
  rw [show (2 : Int) ^ 8 - 1 = 255 from rfl, show (2 : Int) ^ 8 = 256 from rfl] at e
  rw [e, ft_shr_all h0 (by omega) x hx]
  unfold pUn
  have hd : (2 : Int) ^ (32 : Nat) = 2 ^ s.toNat * 2 ^ (32 - s.toNat) := by rw [← Int.pow_add]; congr 1; omega
  have hd2 : (2 : Int) ^ (32 - s.toNat) = 256 * 2 ^ (24 - s.toNat) := by rw [show (256 : Int) = 2 ^ 8 from rfl, ← Int.pow_add]; congr 1; omega
  have hp : (0 : Int) < 2 ^ s.toNat := Int.pow_pos (by omega)
  have hq : x = 4294967296 * (x / 4294967296) + x % 4294967296 := by omega
  have h32 : (4294967296 : Int) = 2 ^ s.toNat * (256 * 2 ^ (24 - s.toNat)) := by rw [← hd2, ← hd]; rfl
  generalize hm : x % 4294967296 = m at *
  generalize x / 4294967296 = d at *
  rw [hq, h32, show 2 ^ s.toNat * (256 * 2 ^ (24 - s.toNat)) * d + m = m + 2 ^ s.toNat * (256 * (2 ^ (24 - s.toNat) * d)) by rw [Int.add_comm, Int.mul_assoc, Int.mul_assoc], Int.add_mul_ediv_left _ _ (by omega), Int.add_mul_emod_self_left]
/-- the four bytes of a word -/
def wb (x : Int) : List Int := [pUn x / 16777216 % 256, pUn x / 65536 % 256, pUn x / 256 % 256, pUn x % 256]
theorem tp_snocC {h h1 h2 : ftH} {T : List Int} {b z : Int} (hT : tpC h T) (hl : T.length < 2200) (hb : 0 ≤ b ∧ b < 256) (hz : z = Int.bmod b 256) (e1 : h1 = ft_hs h 114 (h 113 1).toNat z) (e2 : h2 = ft_hs h1 113 1 (ft_add (h1 113 1) 1)) : tpC h2 (T ++ [b]) ∧ (∀ k, k ≠ 113 → k ≠ 114 → h2 k = h k) ∧ ∀ j, j ≠ 1 → h2 113 j = h 113 j := by
  obtain ⟨t1, t2, t3⟩ := hT
  have k1 : h1 113 1 = (T.length : Int) := by rw [e1, ft_hs_ne 113 (by omega), t1]
  rw [k1, ft_add_eq ⟨by omega, by omega⟩] at e2
  rw [t1, Int.toNat_natCast] at e1
  refine ⟨⟨by rw [e2, ft_hs_same, List.length_append]; rfl, by rw [List.length_append, List.length_singleton]; omega, fun j x hx => ?_⟩, fun k c1 c2 => by rw [e2, ft_hs_ne k c1, e1, ft_hs_ne k c2], fun j hj => by rw [e2, ft_hs_j hj, e1, ft_hs_ne 113 (by omega)]⟩
  rw [e2, ft_hs_ne 114 (by omega)]
  by_cases c : j < T.length
  · rw [List.getElem?_append_left c] at hx
    rw [e1, ft_hs_j (by omega)]
    exact t3 j x hx
  · rw [List.getElem?_append_right (by omega)] at hx
    have hj : j - T.length = 0 := by
      have := (List.getElem?_eq_some_iff.mp hx).1
      rw [List.length_singleton] at this
      omega
    rw [hj] at hx
    cases hx
    rw [show j = T.length by omega, e1, ft_hs_same]
    exact ⟨hb, hz⟩
theorem c_Ta_addFour {h : ftH} {T : List Int} (hT : tpC h T) (hl : T.length + 4 ≤ 2200) {x : Int} : ft_C k_Ta_addFour [.inr (.inr 113), .inl x] h (fun r h' => r = none ∧ tpC h' (T ++ wb x) ∧ (∀ k, k ≠ 113 → k ≠ 114 → h' k = h k) ∧ ∀ j, j ≠ 1 → h' 113 j = h 113 j) := by
  refine ft_enter (n := 1) rfl (Nat.le_of_ble_eq_true rfl) rfl (b_Ta_addFour_0 ?_)
  have rng : ∀ s : Int, 0 ≤ pUn x / 2 ^ s.toNat % 256 ∧ pUn x / 2 ^ s.toNat % 256 < 256 := fun s => by omega
  refine b_Ta_addFour_3 ⟨fun c => absurd c (by omega), fun c => ⟨fun d => absurd d (by have := hT.1; omega), fun d => ⟨by have := hT.1; omega, fun a1 e1 a2 e2 => ?_⟩⟩⟩
  obtain ⟨T1, F1, G1⟩ := tp_snocC hT (by omega) (rng 24) (ft_byteC (by omega) (by omega)) e1 e2
  rw [show ft_add 24 (-8) = 16 from rfl]
  have L1 : (T ++ [pUn x / 2 ^ (24 : Int).toNat % 256]).length = T.length + 1 := by rw [List.length_append]; rfl
  refine b_Ta_addFour_3 ⟨fun c => absurd c (by omega), fun c => ⟨fun d => absurd d (by have := T1.1; omega), fun d => ⟨by have := T1.1; omega, fun b1 p1 b2 p2 => ?_⟩⟩⟩
  obtain ⟨T2, F2, G2⟩ := tp_snocC T1 (by omega) (rng 16) (ft_byteC (by omega) (by omega)) p1 p2
  rw [show ft_add 16 (-8) = 8 from rfl]
  have L2 : (T ++ [pUn x / 2 ^ (24 : Int).toNat % 256] ++ [pUn x / 2 ^ (16 : Int).toNat % 256]).length = T.length + 2 := by rw [List.length_append, L1]; rfl
  refine b_Ta_addFour_3 ⟨fun c => absurd c (by omega), fun c => ⟨fun d => absurd d (by have := T2.1; omega), fun d => ⟨by have := T2.1; omega, fun c1 q1 c2 q2 => ?_⟩⟩⟩
  obtain ⟨T3, F3, G3⟩ := tp_snocC T2 (by omega) (rng 8) (ft_byteC (by omega) (by omega)) q1 q2
  rw [show ft_add 8 (-8) = 0 from rfl]
  have L3 : (T ++ [pUn x / 2 ^ (24 : Int).toNat % 256] ++ [pUn x / 2 ^ (16 : Int).toNat % 256] ++ [pUn x / 2 ^ (8 : Int).toNat % 256]).length = T.length + 3 := by rw [List.length_append, L2]; rfl
  refine b_Ta_addFour_3 ⟨fun c => absurd c (by omega), fun c => ⟨fun d => absurd d (by have := T3.1; omega), fun d => ⟨by have := T3.1; omega, fun d1 r1 d2 r2 => ?_⟩⟩⟩
  obtain ⟨T4, F4, G4⟩ := tp_snocC T3 (by omega) (rng 0) (ft_byteC (by omega) (by omega)) r1 r2
  rw [show ft_add 0 (-8) = -8 from rfl]
  refine b_Ta_addFour_3 ⟨fun c => ?_, fun c => absurd (by omega) c⟩
  refine ⟨rfl, ?_, fun k k1 k2 => by rw [F4 k k1 k2, F3 k k1 k2, F2 k k1 k2, F1 k k1 k2], fun j hj => by rw [G4 j hj, G3 j hj, G2 j hj, G1 j hj]⟩
  have e : T ++ wb x = T ++ [pUn x / 2 ^ (24 : Int).toNat % 256] ++ [pUn x / 2 ^ (16 : Int).toNat % 256] ++ [pUn x / 2 ^ (8 : Int).toNat % 256] ++ [pUn x / 2 ^ (0 : Int).toNat % 256] := by
    rw [List.append_assoc, List.append_assoc, List.append_assoc]
    have h0 : pUn x / 2 ^ (0 : Int).toNat = pUn x := by rw [show (2 : Int) ^ (0 : Int).toNat = 1 from rfl, Int.ediv_one]
    rw [h0]
    rfl
  rw [e]
  exact T4
/-- what append and truncate do to a tape -/
def aApp (a b c d e : Int) (T : List Int) : Int × List Int := if T.length + 20 ≤ 2200 then (((T.length + 20 : Nat) : Int), T ++ (wb a ++ (wb b ++ (wb c ++ (wb d ++ wb e))))) else (-1, T)
def aTru (n : Int) (T : List Int) : Int × List Int := if 0 ≤ n ∧ n ≤ (T.length : Int) then ((T.length : Int) - n, T.take (T.length - n.toNat)) else (-1, T)
theorem d_FT_append {h : ftH} {T : List Int} (hT : tpC h T) {a b c d e : Int} : ft_C k_FT_append [.inr (.inr 0), .inl a, .inl b, .inl c, .inl d, .inl e] h (fun r h' => r = some (.inl (aApp a b c d e T).1) ∧ tpC h' (aApp a b c d e T).2 ∧ (∀ k, k ≠ 113 → k ≠ 114 → h' k = h k) ∧ ∀ j, j ≠ 1 → h' 113 j = h 113 j) := by
  have hl := hT.1
  have h2 := hT.2.1
  refine ft_enter (n := 0) rfl (Nat.le_of_ble_eq_true rfl) rfl (b_FT_append_0 ?_)
  rw [hl, ft_add_eq ⟨by omega, by omega⟩]
  refine ⟨fun q => ?_, fun q => ?_⟩
  · refine ⟨_, c_Ta_addFour hT (by omega), fun h1 hw => ?_⟩
    obtain ⟨-, T1, F1, G1⟩ := hw
    have L1 : (T ++ wb a).length = T.length + 4 := by rw [List.length_append]; rfl
    refine ⟨_, c_Ta_addFour T1 (by omega), fun h2 hw => ?_⟩
    obtain ⟨-, T2, F2, G2⟩ := hw
    have L2 : (T ++ wb a ++ wb b).length = T.length + 8 := by rw [List.length_append, L1]; rfl
    refine ⟨_, c_Ta_addFour T2 (by omega), fun h3 hw => ?_⟩
    obtain ⟨-, T3, F3, G3⟩ := hw
    have L3 : (T ++ wb a ++ wb b ++ wb c).length = T.length + 12 := by rw [List.length_append, L2]; rfl
    refine ⟨_, c_Ta_addFour T3 (by omega), fun h4 hw => ?_⟩
    obtain ⟨-, T4, F4, G4⟩ := hw
    have L4 : (T ++ wb a ++ wb b ++ wb c ++ wb d).length = T.length + 16 := by rw [List.length_append, L3]; rfl
    refine ⟨_, c_Ta_addFour T4 (by omega), fun h5 hw => ?_⟩
    obtain ⟨-, T5, F5, G5⟩ := hw
    have L5 : (T ++ wb a ++ wb b ++ wb c ++ wb d ++ wb e).length = T.length + 20 := by rw [List.length_append, L4]; rfl
    have e9 : aApp a b c d e T = (((T.length + 20 : Nat) : Int), T ++ wb a ++ wb b ++ wb c ++ wb d ++ wb e) := by
      unfold aApp
      rw [if_pos (by omega)]
      simp only [List.append_assoc]
    rw [e9]
    refine ⟨by rw [T5.1, L5], T5, fun k k1 k2 => by rw [F5 k k1 k2, F4 k k1 k2, F3 k k1 k2, F2 k k1 k2, F1 k k1 k2], fun j hj => by rw [G5 j hj, G4 j hj, G3 j hj, G2 j hj, G1 j hj]⟩
  · have e9 : aApp a b c d e T = (-1, T) := by unfold aApp; rw [if_neg (by omega)]
    rw [e9]
    exact ⟨rfl, hT, fun _ _ _ => rfl, fun _ _ => rfl⟩
theorem tp_takeC {h h1 : ftH} {T : List Int} (hT : tpC h T) {n : Nat} (hn : n ≤ T.length) (f : h1 113 1 = n) (f2 : h1 114 = h 114) : tpC h1 (T.take n) := by
  obtain ⟨t1, t2, t3⟩ := hT
  refine ⟨by rw [f, List.length_take]; omega, by rw [List.length_take]; omega, fun j x hx => ?_⟩
  have hj : j < n := by
    have := (List.getElem?_eq_some_iff.mp hx).1
    rw [List.length_take] at this
    omega
  rw [List.getElem?_take_of_lt hj] at hx
  rw [f2]
  exact t3 j x hx
theorem tp_takeM {h h1 : ftH} {T : List Int} (hT : tpM h T) {n : Nat} (hn : n ≤ T.length) (f : h1 309 34 = n) (f2 : h1 330 = h 330) : tpM h1 (T.take n) := by
  obtain ⟨t1, t2, t3⟩ := hT
  refine ⟨by rw [f, List.length_take]; omega, by rw [List.length_take]; omega, fun j x hx => ?_⟩
  have hj : j < n := by
    have := (List.getElem?_eq_some_iff.mp hx).1
    rw [List.length_take] at this
    omega
  rw [List.getElem?_take_of_lt hj] at hx
  rw [f2]
  exact t3 j x hx
theorem d_FT_truncate {h : ftH} {T : List Int} (hT : tpC h T) {n : Int} : ft_C k_FT_truncate [.inr (.inr 0), .inl n] h (fun r h' => r = some (.inl (aTru n T).1) ∧ tpC h' (aTru n T).2 ∧ (∀ k, k ≠ 113 → k ≠ 114 → h' k = h k) ∧ ∀ j, j ≠ 1 → h' 113 j = h 113 j) := by
  have hl := hT.1
  have h2 := hT.2.1
  have bad : ¬ (0 ≤ n ∧ n ≤ (T.length : Int)) → ((some (.inl (-1)) : Option ftV) = some (.inl (aTru n T).1) ∧ tpC h (aTru n T).2 ∧ (∀ k, k ≠ 113 → k ≠ 114 → h k = h k) ∧ ∀ j, j ≠ 1 → h 113 j = h 113 j) := fun q => by
    have e9 : aTru n T = (-1, T) := by unfold aTru; rw [if_neg q]
    rw [e9]
    exact ⟨rfl, hT, fun _ _ _ => rfl, fun _ _ => rfl⟩
  refine ft_enter (n := 0) rfl (Nat.le_of_ble_eq_true rfl) rfl (b_FT_truncate_0 ⟨fun c => bad (by omega), fun c => ⟨fun d h1 e1 => ?_, fun d => bad (by omega)⟩⟩)
  rw [hl, ft_sub_eq ⟨by omega, by omega⟩] at e1
  have e9 : aTru n T = ((T.length : Int) - n, T.take (T.length - n.toNat)) := by unfold aTru; rw [if_pos (by omega)]
  rw [e9]
  have k1 : h1 113 1 = (T.length : Int) - n := by rw [e1, ft_hs_same]
  exact ⟨by rw [k1], tp_takeC hT (by omega) (by omega) (by rw [e1, ft_hs_ne 114 (by omega)]), fun k k1 k2 => by rw [e1, ft_hs_ne k k1], fun j hj => by rw [e1, ft_hs_j hj]⟩
theorem d_Mo_truncate {h : ftH} {T : List Int} (hT : tpM h T) {n : Int} : ft_C k_Mo_truncate [.inr (.inr 309), .inl n] h (fun r h' => r = some (.inl (aTru n T).1) ∧ tpM h' (aTru n T).2 ∧ (∀ k, k ≠ 309 → k ≠ 330 → h' k = h k) ∧ ∀ j, j ≠ 34 → h' 309 j = h 309 j) := by
  have hl := hT.1
  have h2 := hT.2.1
  refine ft_enter (n := 0) rfl (Nat.le_of_ble_eq_true rfl) rfl (b_Mo_truncate_0 ⟨fun d h1 e1 => ?_, fun q => ?_⟩)
  · rw [hl] at d
    rw [hl, ft_sub_eq ⟨by omega, by omega⟩] at e1
    have e9 : aTru n T = ((T.length : Int) - n, T.take (T.length - n.toNat)) := by unfold aTru; rw [if_pos (by omega)]
    rw [e9]
    have k1 : h1 309 34 = (T.length : Int) - n := by rw [e1, ft_hs_same]
    exact ⟨by rw [k1], tp_takeM hT (by omega) (by omega) (by rw [e1, ft_hs_ne 330 (by omega)]), fun k k1 k2 => by rw [e1, ft_hs_ne k k1], fun j hj => by rw [e1, ft_hs_j hj]⟩
  · rw [hl] at q
    have e9 : aTru n T = (-1, T) := by unfold aTru; rw [if_neg q]
    rw [e9]
    exact ⟨rfl, hT, fun _ _ _ => rfl, fun _ _ => rfl⟩
theorem tp_snocM {h h1 h2 : ftH} {T : List Int} {b : Int} (hT : tpM h T) (hl : T.length < 2200) (hb : 0 ≤ b ∧ b < 256) (e1 : h1 = ft_hs h 330 (h 309 34).toNat b) (e2 : h2 = ft_hs h1 309 34 (ft_add (h1 309 34) 1)) : tpM h2 (T ++ [b]) ∧ (∀ k, k ≠ 309 → k ≠ 330 → h2 k = h k) ∧ ∀ j, j ≠ 34 → h2 309 j = h 309 j := by
  obtain ⟨t1, t2, t3⟩ := hT
  have k1 : h1 309 34 = (T.length : Int) := by rw [e1, ft_hs_ne 309 (by omega), t1]
  rw [k1, ft_add_eq ⟨by omega, by omega⟩] at e2
  rw [t1, Int.toNat_natCast] at e1
  refine ⟨⟨by rw [e2, ft_hs_same, List.length_append]; rfl, by rw [List.length_append, List.length_singleton]; omega, fun j x hx => ?_⟩, fun k c1 c2 => by rw [e2, ft_hs_ne k c1, e1, ft_hs_ne k c2], fun j hj => by rw [e2, ft_hs_j hj, e1, ft_hs_ne 309 (by omega)]⟩
  rw [e2, ft_hs_ne 330 (by omega)]
  by_cases c : j < T.length
  · rw [List.getElem?_append_left c] at hx
    rw [e1, ft_hs_j (by omega)]
    exact t3 j x hx
  · rw [List.getElem?_append_right (by omega)] at hx
    have hj : j - T.length = 0 := by
      have := (List.getElem?_eq_some_iff.mp hx).1
      rw [List.length_singleton] at this
      omega
    rw [hj] at hx
    cases hx
    rw [show j = T.length by omega, e1, ft_hs_same]
    exact ⟨hb, rfl⟩
theorem v_Mo_append {a b c d e : Int} (ha : ft_in a) (hb : ft_in b) (hc : ft_in c) (hd : ft_in d) (he : ft_in e) {T : List Int} (h20 : T.length + 20 ≤ 2200) {W : List Int} (hW : W = wb a ++ (wb b ++ (wb c ++ (wb d ++ wb e)))) {h0 : ftH} {R : Option ftV → ftH → Prop} (hk : ∀ h' : ftH, tpM h' (T ++ W) → (∀ k, k ≠ 309 → k ≠ 330 → h' k = h0 k) → (∀ j, j ≠ 34 → h' 309 j = h0 309 j) → R (some (.inl (h' 309 34))) h') :
    ∀ (m i : Nat) (h : ftH), i + m = 20 → tpM h (T ++ W.take i) → (∀ k, k ≠ 309 → k ≠ 330 → h k = h0 k) → (∀ j, j ≠ 34 → h 309 j = h0 309 j) → ft_V k_Mo_append 18 [some (.inr (.inr 309)), some (.inl a), some (.inl b), some (.inl c), some (.inl d), some (.inl e), some (.inl (i : Int)), none] [] h R := by
  have hWl : W.length = 20 := by rw [hW]; rfl
  intro m
  induction m with
  | zero =>
    intro i h hi hT f1 f2
    refine b_Mo_append_18 ⟨fun _ => hk h ?_ f1 f2, fun q => absurd (by omega) q⟩
    rw [List.take_of_length_le (by omega)] at hT
    exact hT
  | succ m ih =>
    intro i h hi hT f1 f2
    have hlen : (T ++ W.take i).length = T.length + i := by rw [List.length_append, List.length_take]; omega
    have b34 : h 309 34 = ((T.length + i : Nat) : Int) := by rw [hT.1, hlen]
    have hi20 : i < 20 := by omega
    have sel : ∀ (x : Int) (r : Nat), ft_in x → i % 4 = r → W[i]? = (wb x)[r]? → ∀ g1 : ftH, g1 = ft_hs h 330 (h 309 34).toNat (ft_and (ft_shr x (ft_sub 24 (ft_mul 8 (ft_rem (i : Int) 4)))) 255) → ∀ g2 : ftH, g2 = ft_hs g1 309 34 (ft_add (g1 309 34) 1) → ft_V k_Mo_append 18 [some (.inr (.inr 309)), some (.inl a), some (.inl b), some (.inl c), some (.inl d), some (.inl e), some (.inl (ft_add (i : Int) 1)), none] [] g2 R := by
      intro x r hx hr hW9 g1 e1 g2 e2
      rw [ft_add_eq ⟨by omega, by omega⟩]
      rw [ft_rem_eq (by omega) (by omega) (by omega) (by omega), show (i : Int) % 4 = (r : Int) by omega, ft_mul_eq ⟨by omega, by omega⟩, ft_sub_eq ⟨by omega, by omega⟩, ft_byteM hx (by omega) (by omega)] at e1
      obtain ⟨t1, t2, t3⟩ := tp_snocM hT (by omega) ⟨by omega, by omega⟩ e1 e2
      refine ih (i + 1) g2 (by omega) ?_ (fun k k1 k2 => by rw [t2 k k1 k2, f1 k k1 k2]) (fun j hj => by rw [t3 j hj, f2 j hj])
      have hx9 : W[i]? = some (pUn x / 2 ^ (24 - 8 * (r : Int)).toNat % 256) := by
        rw [hW9]
        have h4 : r < 4 := by omega
        match r, h4 with
        | 0, _ => rfl
        | 1, _ => rfl
        | 2, _ => rfl
        | 3, _ => show some (pUn x % 256) = some (pUn x / 2 ^ (24 - 8 * ((3 : Nat) : Int)).toNat % 256); rw [show (2 : Int) ^ (24 - 8 * ((3 : Nat) : Int)).toNat = 1 from rfl, Int.ediv_one]
      rw [take_succ_get W i _ hx9, ← List.append_assoc]
      exact t1
    have h4 : (0 ≤ h 309 34 ∧ h 309 34 < 2200) := by rw [b34]; omega
    have pick : ∀ (x : Int) (q : Nat), i / 4 = q → (∀ r, r < 4 → W[4 * q + r]? = (wb x)[r]?) → W[i]? = (wb x)[i % 4]? := fun x q hq hx => by rw [show i = 4 * q + i % 4 by omega, hx (i % 4) (by omega)]; congr 1; omega
    refine b_Mo_append_18 ⟨fun q => absurd q (by omega), fun _ => ⟨fun c4 => ⟨fun c8 => ⟨fun c12 => ⟨fun c16 => ⟨h4, sel e (i % 4) he rfl (pick e 4 (by omega) ?_)⟩, fun c16 => ⟨h4, sel d (i % 4) hd rfl (pick d 3 (by omega) ?_)⟩⟩, fun c12 => ⟨h4, sel c (i % 4) hc rfl (pick c 2 (by omega) ?_)⟩⟩, fun c8 => ⟨h4, sel b (i % 4) hb rfl (pick b 1 (by omega) ?_)⟩⟩, fun c4 => ⟨h4, sel a (i % 4) ha rfl (pick a 0 (by omega) ?_)⟩⟩⟩
    all_goals
      intro r hr
      rw [hW]
      match r, hr with
      | 0, _ => rfl
      | 1, _ => rfl
      | 2, _ => rfl
      | 3, _ => rfl
theorem d_Mo_append {h : ftH} {T : List Int} (hT : tpM h T) {a b c d e : Int} (ha : ft_in a) (hb : ft_in b) (hc : ft_in c) (hd : ft_in d) (he : ft_in e) : ft_C k_Mo_append [.inr (.inr 309), .inl a, .inl b, .inl c, .inl d, .inl e] h (fun r h' => r = some (.inl (aApp a b c d e T).1) ∧ tpM h' (aApp a b c d e T).2 ∧ (∀ k, k ≠ 309 → k ≠ 330 → h' k = h k) ∧ ∀ j, j ≠ 34 → h' 309 j = h 309 j) := by
  have hl := hT.1
  have h2 := hT.2.1
  refine ft_enter (n := 2) rfl (Nat.le_of_ble_eq_true rfl) rfl (b_Mo_append_0 ?_)
  rw [hl, ft_add_eq ⟨by omega, by omega⟩]
  refine ⟨fun q => ?_, fun q => ?_⟩
  · have e9 : aApp a b c d e T = (((T.length + 20 : Nat) : Int), T ++ (wb a ++ (wb b ++ (wb c ++ (wb d ++ wb e))))) := by
      unfold aApp
      rw [if_pos (by omega)]
    rw [e9]
    refine v_Mo_append ha hb hc hd he (by omega) rfl (h0 := h) (fun h' t1 t2 t3 => ⟨?_, t1, t2, t3⟩) 20 0 h rfl (by rw [List.take_zero, List.append_nil]; exact hT) (fun _ _ _ => rfl) (fun _ _ => rfl)
    rw [t1.1, List.length_append]
    rfl
  · have e9 : aApp a b c d e T = (-1, T) := by unfold aApp; rw [if_neg (by omega)]
    rw [e9]
    exact ⟨rfl, hT, fun _ _ _ => rfl, fun _ _ => rfl⟩
