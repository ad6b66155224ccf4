/-! Integer.bitCount, as the JDK does it, is the number of bits (numbers below 2 to the 24th) -/
theorem land_split {k a c a2 c2 : Nat} (ha : a < 2 ^ k) (ha2 : a2 < 2 ^ k) : (a + 2 ^ k * c) &&& (a2 + 2 ^ k * c2) = (a &&& a2) + 2 ^ k * (c &&& c2) := by
  have hb : a &&& a2 < 2 ^ k := Nat.and_lt_two_pow a ha2
  refine Nat.eq_of_testBit_eq (fun i => ?_)
  rw [Nat.testBit_and, Nat.add_comm a, Nat.add_comm a2, Nat.add_comm (a &&& a2), Nat.testBit_two_pow_mul_add _ ha, Nat.testBit_two_pow_mul_add _ ha2, Nat.testBit_two_pow_mul_add _ hb]
  by_cases h : i < k
  · simp [h]
  · simp [h]
theorem land_b {a c a2 c2 : Nat} (ha : a < 256) (ha2 : a2 < 256) : (a + 256 * c) &&& (a2 + 256 * c2) = (a &&& a2) + 256 * (c &&& c2) := land_split (k := 8) ha ha2
def pc1 (a : Nat) : Nat := a - (a / 2 &&& 85)
def pc2 (a : Nat) : Nat := (a &&& 51) + (a / 4 &&& 51)
def pc3 (a : Nat) : Nat := (a + a / 16) &&& 15
def pcb (a : Nat) : Nat := fb_ct (fun i => a.testBit i) 8
theorem pc_all : ∀ a, a < 256 → pc3 (pc2 (pc1 a)) = pcb a ∧ pc2 (pc1 a) < 69 ∧ pc2 (pc1 a) % 16 < 5 ∧ pc1 a < 256 ∧ pcb a < 9 := by decide +kernel
theorem pc_m1 : ∀ a, a < 256 → ∀ e, e < 2 → (a / 2 + 128 * e) &&& 85 = a / 2 &&& 85 := by decide +kernel
theorem pc_m2 : ∀ a, a < 256 → ∀ e, e < 4 → (a / 4 + 64 * e) &&& 51 = a / 4 &&& 51 := by decide +kernel
theorem pc_m3 : ∀ a, a < 69 → ∀ e, e < 5 → (a + a / 16 + 16 * e) &&& 15 = (a + a / 16) &&& 15 := by decide +kernel
theorem pc_s1 {a c M : Nat} (ha : a < 256) : (a + 256 * c) - ((a + 256 * c) / 2 &&& (85 + 256 * M)) = pc1 a + 256 * (c - (c / 2 &&& M)) := by
  have e : (a + 256 * c) / 2 = (a / 2 + 128 * (c % 2)) + 256 * (c / 2) := by omega
  rw [e, land_b (by omega) (by decide), pc_m1 a ha (c % 2) (by omega)]
  have h1 : a / 2 &&& 85 ≤ a / 2 := Nat.and_le_left
  have h2 : c / 2 &&& M ≤ c / 2 := Nat.and_le_left
  unfold pc1
  omega
theorem pc_s2 {a c M : Nat} (ha : a < 256) : ((a + 256 * c) &&& (51 + 256 * M)) + ((a + 256 * c) / 4 &&& (51 + 256 * M)) = pc2 a + 256 * ((c &&& M) + (c / 4 &&& M)) := by
  have e : (a + 256 * c) / 4 = (a / 4 + 64 * (c % 4)) + 256 * (c / 4) := by omega
  rw [e, land_b ha (by decide), land_b (by omega) (by decide), pc_m2 a ha (c % 4) (by omega)]
  unfold pc2
  omega
theorem pc_s3 {a c M : Nat} (ha : a < 69) (hc : c % 16 < 5) : ((a + 256 * c) + (a + 256 * c) / 16) &&& (15 + 256 * M) = pc3 a + 256 * ((c + c / 16) &&& M) := by
  have e : (a + 256 * c) + (a + 256 * c) / 16 = (a + a / 16 + 16 * (c % 16)) + 256 * (c + c / 16) := by omega
  rw [e, land_b (by omega) (by decide), pc_m3 a ha (c % 16) hc]
  rfl
set_option maxHeartbeats 1000000 in
theorem bitCount_ok {n0 n1 n2 : Nat} (h0 : n0 < 256) (h1 : n1 < 256) (h2 : n2 < 256) {σ : St} {Q : Int32 → St → Prop} (hQ : Q (nI (pcb n0 + pcb n1 + pcb n2)) σ) : pJ6_bitCount_0f7a4 (nI (n0 + 256 * (n1 + 256 * n2))) σ Q := by
  unfold pJ6_bitCount_0f7a4
  intro x1 hx1 x2 hx2 x3 hx3 x4 hx4 x5 hx5
  obtain ⟨a0, b0, c0, d0, e0⟩ := pc_all n0 h0
  obtain ⟨a1, b1, c1, d1, e1⟩ := pc_all n1 h1
  obtain ⟨a2, b2, c2, d2, e2⟩ := pc_all n2 h2
  have g1 : x1 = nI (pc1 n0 + 256 * (pc1 n1 + 256 * pc1 n2)) := by
    rw [hx1, pk_ushrN (by omega) 1 1 (by decide), show (1431655765 : Int32) = nI (85 + 256 * (85 + 256 * (85 + 256 * 85))) from rfl, fa_and, pk_sub (Nat.le_trans Nat.and_le_left (Nat.div_le_self _ _)), pc_s1 h0, pc_s1 h1]
    have := pc_s1 (c := 0) (M := 85) h2
    simp only [Nat.mul_zero, Nat.add_zero, Nat.zero_div, Nat.zero_and, Nat.sub_zero] at this
    rw [this]
  have g2 : x2 = nI (pc2 (pc1 n0) + 256 * (pc2 (pc1 n1) + 256 * pc2 (pc1 n2))) := by
    rw [hx2, g1, pk_ushrN (by omega) 2 2 (by decide), show (858993459 : Int32) = nI (51 + 256 * (51 + 256 * (51 + 256 * 51))) from rfl, fa_and, fa_and, nI_add, show (2 : Nat) ^ 2 = 4 from rfl, pc_s2 d0, pc_s2 d1]
    have := pc_s2 (c := 0) (M := 51) d2
    simp only [Nat.mul_zero, Nat.add_zero, Nat.zero_div, Nat.zero_and] at this
    rw [this]
  have g3 : x3 = nI (pcb n0 + 256 * (pcb n1 + 256 * pcb n2)) := by
    rw [hx3, g2, pk_ushrN (by omega) 4 4 (by decide), show (252645135 : Int32) = nI (15 + 256 * (15 + 256 * (15 + 256 * 15))) from rfl, nI_add, fa_and, show (2 : Nat) ^ 4 = 16 from rfl, pc_s3 b0 (by omega), pc_s3 b1 (by omega)]
    have := pc_s3 (c := 0) (M := 15) b2 (by decide)
    simp only [Nat.mul_zero, Nat.add_zero, Nat.zero_div, Nat.zero_and] at this
    rw [this, a0, a1, a2]
  have g4 : x4 = nI ((pcb n0 + pcb n1) + 256 * ((pcb n1 + pcb n2) + 256 * pcb n2)) := by
    rw [hx4, g3, pk_ushrN (by omega) 8 8 (by decide), nI_add]
    congr 1
    omega
  have g5 : x5 = nI ((pcb n0 + pcb n1 + pcb n2) + 256 * ((pcb n1 + pcb n2) + 256 * pcb n2)) := by
    rw [hx5, g4, pk_ushrN (by omega) 16 16 (by decide), nI_add]
    congr 1
    omega
  have g6 : x5 &&& 63 = nI (pcb n0 + pcb n1 + pcb n2) := by
    rw [g5, show (63 : Int32) = nI (2 ^ 6 - 1) from rfl, fa_mask]
    congr 1
    omega
  rw [g6]
  exact hQ
theorem bt_nat (x : Int32) (i : Nat) : bt x i = x.toBitVec.toNat.testBit i := rfl
theorem nI_tn (x : Int32) : nI x.toBitVec.toNat = x := by
  refine Int32.toBitVec_inj.mp ?_
  show (Int32.ofNat x.toBitVec.toNat).toBitVec = x.toBitVec
  simp
theorem bitc_ok {x : Int32} {σ : St} {Q : Int32 → St → Prop} (hx : ∀ i, 24 ≤ i → i < 32 → bt x i = false) (hQ : Q (nI (fb_ct (bt x) 24)) σ) : pJ6_bitCount_0f7a4 x σ Q := by
  have hlt : x.toBitVec.toNat < 2 ^ 24 := by
    refine Nat.lt_pow_two_of_testBit _ (fun i hi => ?_)
    rcases Nat.lt_or_ge i 32 with h | h
    · exact hx i hi h
    · exact Nat.testBit_lt_two_pow (Nat.lt_of_lt_of_le x.toBitVec.isLt (Nat.pow_le_pow_right (by decide) h))
  have e : x.toBitVec.toNat % 256 + 256 * (x.toBitVec.toNat / 256 % 256 + 256 * (x.toBitVec.toNat / 65536)) = x.toBitVec.toNat := by omega
  have key := bitCount_ok (n0 := x.toBitVec.toNat % 256) (n1 := x.toBitVec.toNat / 256 % 256) (n2 := x.toBitVec.toNat / 65536) (by omega) (by omega) (by omega) (σ := σ) (Q := Q) ?_
  · rw [e, nI_tn] at key
    exact key
  · have q0 : pcb (x.toBitVec.toNat % 256) = fb_ct (bt x) 8 := by
      refine fb_ct_cong (fun k hk => ?_)
      rw [bt_nat, show (256 : Nat) = 2 ^ 8 from rfl, Nat.testBit_mod_two_pow]
      simp [hk]
    have q1 : pcb (x.toBitVec.toNat / 256 % 256) = fb_ct (fun k => bt x (8 + k)) 8 := by
      refine fb_ct_cong (fun k hk => ?_)
      rw [bt_nat, show (256 : Nat) = 2 ^ 8 from rfl, Nat.testBit_mod_two_pow, Nat.testBit_div_two_pow]
      simp [hk, Nat.add_comm]
    have q2 : pcb (x.toBitVec.toNat / 65536) = fb_ct (fun k => bt x (16 + k)) 8 := by
      refine fb_ct_cong (fun k hk => ?_)
      rw [bt_nat, show (65536 : Nat) = 2 ^ 16 from rfl, Nat.testBit_div_two_pow, Nat.add_comm]
    rw [q0, q1, q2]
    have s1 := fb_ct_split (bt x) 16 8
    have s2 := fb_ct_split (bt x) 8 8
    rw [← s2, ← s1]
    exact hQ
