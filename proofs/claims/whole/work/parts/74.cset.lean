/-! the compressor's walks -/
theorem c_Co_open {b : Nat} (hb : ft_sh b = some (.inl 4)) (hb122 : b + 3 ≤ 122 ∨ 133 ≤ b) {L : List (Int × Int)} (hL : lOk L) (h60 : L.length ≤ 60) {h : ftH} {nk : Nat → Nat} {k : Nat} (hco : coI h L nk k) (hkm : k < mk nk k) (hS : setI h b L) : ft_C k_Co_open [.inr (.inr 122), .inl (k : Int), .inr (.inr b)] h (fun r h' => r = none ∧ (∃ n, coI h' L (updN nk k n) (k + 1)) ∧ ∀ c, c < 122 ∨ 131 ≤ c → h' c = h c) := by
  have hsm := coI_small hco
  obtain ⟨hn, hkey, ⟨a, t, h4, h5, hr⟩, h7, h8⟩ := hco.2.2.2.2.2.1 k (Nat.le_refl k) hkm
  refine ft_enter (n := 10) rfl (Nat.le_of_ble_eq_true rfl) rfl (b_Co_open_0 hb ⟨⟨by omega, by omega⟩, fun n1 e1 => ⟨⟨by omega, by omega⟩, fun n2 e2 => ?_⟩⟩)
  rw [Int.toNat_natCast] at e1 e2
  rw [h4] at e1
  rw [h5] at e2
  subst e1 e2
  have hrL := hr.2.1
  have hat := hr.1
  refine ⟨fun c => ?_, fun c => ?_⟩
  · have eat : a = t := by omega
    subst eat
    have hP : rngP L (cd h k) (cv h k) a a := ⟨Nat.le_refl a, hrL, fun i hi => ⟨fun q => ?_, fun q => by omega⟩⟩
    · have e7 : h 127 k = arF L (33 - cd h k) (cv h k) := by
        rw [h7, arF_none hL hn (fun q hq q1 _ => ?_)]
        obtain ⟨i, hi, rfl⟩ := mem_at hq
        have := (hr.2.2 i hi).mp q1
        omega
      exact v_Co_open52 hb hb122 hL h60 hco hkm (fun c j _ => rfl) e7 hS h4 h5 hr hP (Or.inl rfl) (fun h' n k1 k2 => ⟨rfl, ⟨n, k1⟩, k2⟩)
    · have := (hr.2.2 i hi).mp (rI_at.mpr (by have := rP_at.mp q; omega))
      omega
  · have hlt : a < t := by omega
    have hE := rng_eq hL hn hr hlt
    rw [Int.toNat_natCast, Int.toNat_natCast, (hS.2.2 a (by omega)).1, (hS.2.2 a (by omega)).2, hkey]
    have hln := ft_ln_ps hb
    have hbl := hS.2.1
    refine ⟨⟨by omega, by omega⟩, ⟨by omega, by omega⟩, fun d => ?_, fun d => ⟨⟨by omega, by omega⟩, ⟨by omega, by omega⟩, fun h1 e1 => ?_⟩⟩
    · obtain ⟨q1, q2⟩ := hE.2 d
      exact v_Co_open52 hb hb122 hL h60 hco hkm (fun c j _ => rfl) (by rw [h7, q2]) hS h4 h5 hr q1 (Or.inl rfl) (fun h' n k1 k2 => ⟨rfl, ⟨n, k1⟩, k2⟩)
    · obtain ⟨q1, q2⟩ := hE.1 d
      have e3 : ft_add (a : Int) 1 = ((a + 1 : Nat) : Int) := by rw [ft_add_eq ⟨by omega, by omega⟩]; push_cast; rfl
      rw [e3]
      have own : ∃ q ∈ L, rIn (cd h k) (cv h k) q = true ∧ q.1 % 64 = 32 - cd h k := ⟨_, at_mem (show a < L.length by omega), (hr.2.2 a (by omega)).mpr ⟨Nat.le_refl a, hlt⟩, by simp only; rw [d]; exact (nd_eq hn.1).2⟩
      refine v_Co_open52 hb hb122 hL h60 hco hkm (fun c j hc => ?_) (by rw [e1, ft_hs_same, q2]) (setI_fr hS (fun c c1 c2 => by rw [e1]; exact ft_hs_ne c (by omega))) h4 h5 hr q1 (Or.inr ⟨rfl, own⟩) (fun h' n k1 k2 => ⟨rfl, ⟨n, k1⟩, fun c hc => by rw [k2 c hc, e1, ft_hs_ne c (by omega)]⟩)
      rw [e1]
      by_cases q3 : c = 127
      · rw [q3]; exact ft_hs_j (fun q4 => hc ⟨q3, q4⟩)
      · rw [ft_hs_ne c q3]
