/-! the model's search is 'srch' -/
theorem su_s (σ : St) (k j : Nat) (v : Int32) : st_up σ k j v k j = v := by simp [st_up, upd]
theorem su_k (σ : St) {k q : Nat} (j : Nat) (v : Int32) (h : q ≠ k) : st_up σ k j v q = σ q := by simp [st_up, h]
theorem su_j (σ : St) (k : Nat) {j i : Nat} (v : Int32) (h : i ≠ j) : st_up σ k j v k i = σ k i := by simp [st_up, upd, h]
theorem nar_1 : vp_nar .boolean 1 = 1 := by decide
theorem nar_0 : vp_nar .boolean 0 = 0 := by decide
def enc (x : Option Nat) : Int32 := match x with
  | none => -1
  | some l => nI l
def FRep (m n : Nat) (u : SM) (h : Hs) (s : Sn) : Prop := (∀ j, j < m → u.1 18 j = enc (h j)) ∧ (∀ j, j < m → (s j = false ↔ u.1 20 j = 0 ∧ u.1 21 j = 0)) ∧ ∀ j l, j < m → h j = some l → l < n
def FMet (m n : Nat) (u : SM) (met : Nat → Nat → Bool) : Prop := u.1 0 21 = nI m ∧ m ≤ 12 ∧ n ≤ 12 ∧ ∀ i j, i < n → j < m → (u.1 17 (12 * i + j) = 0 ↔ met i j = false)
def FEq (u v : SM) : Prop := v.2 = u.2 ∧ ∀ k, k ≠ 18 → k ≠ 21 → v.1 k = u.1 k
theorem FEq.rf (u : SM) : FEq u u := ⟨rfl, fun _ _ _ => rfl⟩
theorem FEq.tr {u v w : SM} (h : FEq u v) (h2 : FEq v w) : FEq u w := ⟨h2.1.trans h.1, fun k a b => (h2.2 k a b).trans (h.2 k a b)⟩
theorem FEq.s18 (u : SM) (j : Nat) (v : Int32) : FEq u (st_up u.1 18 j v, u.2) := ⟨rfl, fun k a _ => su_k u.1 j v a⟩
theorem FEq.s21 (u : SM) (j : Nat) (v : Int32) : FEq u (st_up u.1 21 j v, u.2) := ⟨rfl, fun k _ b => su_k u.1 j v b⟩
theorem FMet.eq {m n : Nat} {u v : SM} {met : Nat → Nat → Bool} (h : FMet m n u met) (e : FEq u v) : FMet m n v met := by
  obtain ⟨a1, a2, a3, a4⟩ := h
  refine ⟨?_, a2, a3, fun i j hi hj => ?_⟩
  · rw [e.2 0 (by decide) (by decide)]; exact a1
  · rw [e.2 17 (by decide) (by decide)]; exact a4 i j hi hj
def b2i (b : Bool) : Int32 := if b then 1 else 0
set_option maxHeartbeats 2000000 in
theorem finds_ok {m n : Nat} {met : Nat → Nat → Bool} : ∀ (d i : Nat) (u : SM) (h : Hs) (s : Sn) (Q : Int32 → SM → Prop), FMet m n u met → FRep m n u h s → i < n → uns m s < d →
    (∀ v, FEq u v → FRep m n v (srch met m d i h s).2.1 (srch met m d i h s).2.2 → Q (b2i (srch met m d i h s).1) v) → pX9_finds d (nI i) u Q := by
  intro d
  induction d with
  | zero => intro i u h s Q _ _ _ hu; exact absurd hu (Nat.not_lt_zero _)
  | succ d ih =>
    intro i u0 h0 s0 Q hM0 hR0 hi hu0 hQ0
    have key : ∀ (r j : Nat) (u : SM) (h : Hs) (s : Sn), j + r = m → FEq u0 u → FRep m n u h s → uns m s < d + 1 →
        (∀ v, FEq u0 v → FRep m n v (srl met (srch met m d) i r j h s).2.1 (srl met (srch met m d) i r j h s).2.2 → Q (b2i (srl met (srch met m d) i r j h s).1) v) → qX9_finds_l2 (pX9_finds d) Q (r + 1) (nI i) (nI j) u := by
      intro r
      induction r with
      | zero =>
        intro j u h s hjr hE hR hu hQ
        have hM := hM0.eq hE
        show qX9_finds_2 (pX9_finds d) (qX9_finds_l2 (pX9_finds d) Q 0) Q (nI i) (nI j) u
        unfold qX9_finds_2
        exact pk_le m j (fun _ => hQ u hE hR) (fun hc => by omega) (hx := hM.1) (ha := by have := hM.2.1; omega) (hb := by have := hM.2.1; omega)
      | succ r ihr =>
        intro j u h s hjr hE hR hu hQ
        have hM := hM0.eq hE
        obtain ⟨m1, m2, m3, m4⟩ := hM
        have hjm : j < m := by omega
        show qX9_finds_2 (pX9_finds d) (qX9_finds_l2 (pX9_finds d) Q (r + 1)) Q (nI i) (nI j) u
        unfold qX9_finds_2
        have e12 : (12 : Int32) * nI i + nI j = nI (12 * i + j) := by
          rw [show (12 : Int32) = nI 12 from rfl, pk_mul, nI_add]
        have hj1 : Int32.toNatClampNeg (nI j) = j := nI_clamp (by omega)
        have hj2 : Int32.toNatClampNeg (nI (12 * i + j)) = 12 * i + j := nI_clamp (by omega)
        have hin : vp_in (nI j) 12 := vp_in_nI (by omega) (by decide)
        have nxt : ∀ (v : SM) (h2 : Hs) (s2 : Sn), FEq u0 v → FRep m n v h2 s2 → uns m s2 < d + 1 → srl met (srch met m d) i (r + 1) j h s = srl met (srch met m d) i r (j + 1) h2 s2 → qX9_finds_80 (pX9_finds d) (qX9_finds_l2 (pX9_finds d) Q (r + 1)) Q (nI i) (nI j) v := by
          intro v h2 s2 hEv hRv huv e
          unfold qX9_finds_80
          intro x hx
          rw [hx, nI_1]
          refine ihr (j + 1) v h2 s2 (by omega) hEv hRv huv ?_
          rw [← e]
          exact hQ
        simp only [e12, hj1, hj2]
        refine pk_le m j (fun hc => by omega) (fun _ => ?_) (hx := m1) (ha := by omega) (hb := by omega)
        refine ⟨vp_in_nI (by omega) (by decide), fun hz => ?_, fun hz => ?_⟩
        · -- they don't meet
          have hc : ¬ (met i j = true ∧ s j = false) := by
            rw [(m4 i j hi hjm).mp hz]
            rintro ⟨a, -⟩
            cases a
          exact nxt u h s hE hR hu (by simp [srl, hc])
        have hmet : met i j = true := by
          cases e : met i j with
          | true => rfl
          | false => exact absurd ((m4 i j hi hjm).mpr e) hz
        refine ⟨hin, fun hz2 => ?_, fun hz2 => ⟨hin, fun hz3 => ?_, fun hz3 => ⟨hin, fun s1 hs1 => ⟨hin, ?_⟩⟩⟩⟩
        · have hc : ¬ (met i j = true ∧ s j = false) := fun a => hz2 ((hR.2.1 j hjm).mp a.2).1
          exact nxt u h s hE hR hu (by simp [srl, hc])
        · have hc : ¬ (met i j = true ∧ s j = false) := fun a => hz3 ((hR.2.1 j hjm).mp a.2).2
          exact nxt u h s hE hR hu (by simp [srl, hc])
        have hsj : s j = false := (hR.2.1 j hjm).mpr ⟨hz2, hz3⟩
        have hc : met i j = true ∧ s j = false := ⟨hmet, hsj⟩
        have hE1 : FEq u s1 := by rw [hs1]; exact FEq.s21 u j _
        have h18 : ∀ q, s1.1 18 q = u.1 18 q := fun q => by
          rw [hs1]
          show st_up u.1 21 j (vp_nar .boolean 1) 18 q = u.1 18 q
          rw [su_k (k := 21) (q := 18) _ _ _ (by decide)]
        have hR1 : FRep m n s1 h (va_up s j true) := by
          refine ⟨fun q hq => by rw [h18]; exact hR.1 q hq, fun q hq => ?_, hR.2.2⟩
          rw [hE1.2 20 (by decide) (by decide)]
          by_cases a : q = j
          · subst a
            rw [up_s, hs1]
            show true = false ↔ u.1 20 q = 0 ∧ st_up u.1 21 q (vp_nar .boolean 1) 21 q = 0
            rw [su_s, nar_1]
            constructor
            · intro e; cases e
            · intro e; exact absurd e.2 (by decide)
          · rw [up_n _ _ a, hs1]
            show s q = false ↔ u.1 20 q = 0 ∧ st_up u.1 21 j (vp_nar .boolean 1) 21 q = 0
            rw [su_j _ _ _ a]
            exact hR.2.1 q hq
        have got : ∀ (v : SM) (h2 : Hs) (s2 : Sn), FEq u0 v → FRep m n v h2 s2 → srl met (srch met m d) i (r + 1) j h s = (true, va_up h2 j (some i), s2) → qX9_finds_71 (pX9_finds d) Q (nI i) (nI j) v := by
          intro v h2 s2 hEv hRv e
          unfold qX9_finds_71
          refine ⟨hin, fun s5 hs5 => ?_⟩
          rw [hj1] at hs5
          have hQ2 := hQ s5 (by rw [hs5]; exact hEv.tr (FEq.s18 v j _))
          rw [e] at hQ2
          refine hQ2 ⟨fun q hq => ?_, fun q hq => ?_, fun q l hq e2 => ?_⟩
          · rw [hs5]
            show st_up v.1 18 j (nI i) 18 q = enc (va_up h2 j (some i) q)
            by_cases a : q = j
            · subst a; rw [su_s, up_s]; rfl
            · rw [su_j _ _ _ a, up_n _ _ a]; exact hRv.1 q hq
          · rw [hs5]
            show s2 q = false ↔ st_up v.1 18 j (nI i) 20 q = 0 ∧ st_up v.1 18 j (nI i) 21 q = 0
            rw [su_k _ _ _ (by decide), su_k _ _ _ (by decide)]
            exact hRv.2.1 q hq
          · have e3 : va_up h2 j (some i) q = some l := e2
            by_cases a : q = j
            · subst a; rw [up_s] at e3; cases e3; exact hi
            · rw [up_n _ _ a] at e3; exact hRv.2.2 q l hq e3
        rw [h18, hR.1 j hjm]
        cases hh : h j with
        | none =>
          refine ⟨fun _ => got s1 h (va_up s j true) (hE.tr hE1) hR1 (by simp [srl, hc, hh]), fun hn => absurd (by decide) hn⟩
        | some l =>
          have hl : l < n := hR.2.2 j l hjm hh
          refine ⟨fun hn => absurd hn (nI_pos (by omega)), fun _ => ⟨hin, ?_⟩⟩
          have hu1 : uns m (va_up s j true) < d := by
            have := uns_up hjm hsj
            omega
          refine ih l s1 h (va_up s j true) _ (hM0.eq (hE.tr hE1)) hR1 hl hu1 (fun v hv hRv => ?_)
          have f1 := (srch_fr met m d l h (va_up s j true)).1
          cases hr : srch met m d l h (va_up s j true) with
          | mk b hs2 =>
            obtain ⟨h2, s2⟩ := hs2
            rw [hr] at hRv f1
            cases b with
            | true =>
              refine ⟨fun e => absurd e (show ¬ (1 : Int32) = 0 by decide), fun _ => got v h2 s2 ((hE.tr hE1).tr hv) hRv (by simp [srl, hc, hh, hr])⟩
            | false =>
              refine ⟨fun _ => nxt v h2 s2 ((hE.tr hE1).tr hv) hRv ?_ (by simp [srl, hc, hh, hr]), fun e => absurd rfl e⟩
              have := uns_mono (m := m) f1
              have e9 : uns m s2 ≤ uns m (va_up s j true) := this
              omega
    show pX9_finds_b (pX9_finds d) (nI i) u0 Q
    exact ⟨m + 1, key m 0 u0 h0 s0 (by omega) (FEq.rf u0) hR0 hu0 hQ0⟩
