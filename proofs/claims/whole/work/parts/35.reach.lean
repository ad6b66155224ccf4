/-! the class's search is 'srch' too -/
theorem bt_one : ∀ k, k < 32 → bt 1 k = decide (k = 0) := by decide +kernel
theorem bt_sh {j i : Nat} (hj : j < 32) (hi : i < 32) : bt ((1 : Int32) <<< (nI j &&& 31)) i = decide (i = j) := by
  rw [b_shl j hj 1 hi]
  by_cases h : j ≤ i
  · rw [bt_one (i - j) (by omega)]
    by_cases e : i = j
    · subst e; simp
    · have : ¬ (i - j = 0) := by omega
      simp [h, e, this]
  · have : ¬ (i = j) := by omega
    simp [h, this]
theorem bit_0 {x : Int32} {q : Nat} (hq : q < 32) : x &&& ((1 : Int32) <<< (nI q &&& 31)) = 0 ↔ bt x q = false := by
  constructor
  · intro h
    have h1 := b_and x ((1 : Int32) <<< (nI q &&& 31)) q
    rw [h, b_0, bt_sh hq hq] at h1
    simpa using h1.symm
  · intro h
    refine b_ext (fun i hi => ?_)
    rw [b_and, b_0, bt_sh hq hi]
    by_cases e : i = q
    · subst e; simp [h]
    · simp [e]
theorem bt_or_sh {x : Int32} {j q : Nat} (hj : j < 32) (hq : q < 32) : bt (x ||| ((1 : Int32) <<< (nI j &&& 31))) q = (bt x q || decide (q = j)) := by
  rw [b_or, bt_sh hj hq]
/-- lefts and rights of the class: n, m; bits of meets and of tried; mate and owner -/
def CMet (m n : Nat) (σ : St) (met : Nat → Nat → Bool) : Prop := σ 26 6 = nI m ∧ m ≤ 12 ∧ n ≤ 12 ∧ ∀ i j, i < n → j < m → bt (σ 27 i) j = met i j
def CEq (σ v : St) : Prop := (∀ k, k ≠ 26 → k ≠ 28 → k ≠ 29 → v k = σ k) ∧ ∀ j, j ≠ 8 → v 26 j = σ 26 j
theorem CEq.rf (σ : St) : CEq σ σ := ⟨fun _ _ _ _ => rfl, fun _ _ => rfl⟩
theorem CEq.tr {σ v w : St} (h : CEq σ v) (h2 : CEq v w) : CEq σ w := ⟨fun k a b c => (h2.1 k a b c).trans (h.1 k a b c), fun j a => (h2.2 j a).trans (h.2 j a)⟩
theorem CEq.tried (σ : St) (x : Int32) : CEq σ (st_up σ 26 8 x) := ⟨fun k a _ _ => su_k σ 8 x a, fun j a => su_j σ 26 x a⟩
theorem CEq.up (σ : St) {k0 : Nat} (hk : k0 = 28 ∨ k0 = 29) (j : Nat) (x : Int32) : CEq σ (st_up σ k0 j x) := ⟨fun k a b c => su_k σ j x (by omega), fun q _ => by rw [su_k σ j x (by omega)]⟩
theorem CMet.eq {m n : Nat} {σ v : St} {met : Nat → Nat → Bool} (h : CMet m n σ met) (e : CEq σ v) : CMet m n v met := by
  obtain ⟨a1, a2, a3, a4⟩ := h
  refine ⟨by rw [e.2 6 (by decide)]; exact a1, a2, a3, fun i j hi hj => ?_⟩
  rw [e.1 27 (by decide) (by decide) (by decide)]
  exact a4 i j hi hj
/-- who is paired has that mate -/
def MP (m : Nat) (σ : St) (h : Hs) : Prop := ∀ q l, q < m → h q = some l → σ 28 l = nI q
set_option maxHeartbeats 4000000 in
theorem reach_ok {m n b0 : Nat} {met : Nat → Nat → Bool} {T : Sn} : ∀ (d i dp : Nat) (σ : St) (h : Hs) (s : Sn) (Q : Int32 → St → Prop), CMet m n σ met → (∀ j, j < m → bt (σ 26 8) j = s j) → (∀ q, T q = true → s q = true) → VT met n m b0 T h → b0 ≤ i ∧ i < n → ¬ mat m T h i → (∀ q l, q < m → T q = true → h q = some l → l < b0) → (∀ q, q < m → s q = false → σ 29 q = enc (h q)) → MP m σ h → uns m s < d → dp + uns m s ≤ 12 →
    (∀ v, CEq σ v → (∀ j, j < m → bt (v 26 8) j = (srch met m d i h s).2.2 j) → (∀ q, q < m → s q = false → v 29 q = enc ((srch met m d i h s).2.1 q)) → (∀ q, (m ≤ q ∨ s q = true) → v 29 q = σ 29 q) → MP m v (srch met m d i h s).2.1 → (∀ l, (∀ q, q < m → (srch met m d i h s).2.1 q ≠ some l) → v 28 l = σ 28 l) → Q (b2i (srch met m d i h s).1) v) → pX3_reach d (nI i) (nI dp) σ Q := by
  intro d
  induction d with
  | zero => intro i dp σ h s Q _ _ _ _ _ _ _ _ _ hu; exact absurd hu (Nat.not_lt_zero _)
  | succ d ih =>
    intro i dp σ0 h s0 Q hM0 hs0 hT0 hV hi hf hTb hR0 hP0 hu0 hdp hQ0
    have hm12 := hM0.2.1
    have hn12 := hM0.2.2.1
    have key : ∀ (r j : Nat) (σ : St) (s : Sn), j + r = m → CEq σ0 σ → σ 28 = σ0 28 → σ 29 = σ0 29 → (∀ q, q < m → bt (σ 26 8) q = s q) → (∀ q, s0 q = true → s q = true) →
        (∀ v, CEq σ0 v → (∀ q, q < m → bt (v 26 8) q = (srl met (srch met m d) i r j h s).2.2 q) → (∀ q, q < m → s0 q = false → v 29 q = enc ((srl met (srch met m d) i r j h s).2.1 q)) → (∀ q, (m ≤ q ∨ s0 q = true) → v 29 q = σ0 29 q) → MP m v (srl met (srch met m d) i r j h s).2.1 → (∀ l, (∀ q, q < m → (srl met (srch met m d) i r j h s).2.1 q ≠ some l) → v 28 l = σ0 28 l) → Q (b2i (srl met (srch met m d) i r j h s).1) v) → qX3_reach_l10 (pX3_reach d) Q (r + 1) (nI i) (nI dp) (nI j) σ := by
      intro r
      induction r with
      | zero =>
        intro j σ s hjr hE h28 h29 hs hss hQ
        have ej : j = m := by omega
        subst ej
        show qX3_reach_10 (pX3_reach d) (qX3_reach_l10 (pX3_reach d) Q 0) Q _ _ _ _
        unfold qX3_reach_10
        refine pk_le j j (fun _ => ?_) (fun hc => by omega) (hx := (hM0.eq hE).1) (ha := by omega) (hb := by omega)
        exact hQ σ hE hs (fun q hq e => by rw [h29]; exact hR0 q hq e) (fun q _ => by rw [h29]) (fun q l hq e => by rw [h28]; exact hP0 q l hq e) (fun l _ => by rw [h28])
      | succ r ihr =>
        intro j σ s hjr hE h28 h29 hs hss hQ
        obtain ⟨m1, m2, m3, m4⟩ := hM0.eq hE
        have hjm : j < m := by omega
        have hj1 : Int32.toNatClampNeg (nI j) = j := nI_clamp (by omega)
        have hi1 : Int32.toNatClampNeg (nI i) = i := nI_clamp (by omega)
        have hin : vp_in (nI j) 12 := vp_in_nI (by omega) (by decide)
        have hini : vp_in (nI i) 12 := vp_in_nI (by omega) (by decide)
        show qX3_reach_10 (pX3_reach d) (qX3_reach_l10 (pX3_reach d) Q (r + 1)) Q _ _ _ _
        unfold qX3_reach_10
        have nxt : ∀ (v : St) (s2 : Sn), CEq σ0 v → v 28 = σ0 28 → v 29 = σ0 29 → (∀ q, q < m → bt (v 26 8) q = s2 q) → (∀ q, s0 q = true → s2 q = true) → srl met (srch met m d) i (r + 1) j h s = srl met (srch met m d) i r (j + 1) h s2 → qX3_reach_97 (pX3_reach d) (qX3_reach_l10 (pX3_reach d) Q (r + 1)) Q (nI i) (nI dp) (nI j) v := by
          intro v s2 hEv hv28 hv29 hsv hsv2 e
          unfold qX3_reach_97
          intro x hx
          rw [hx, nI_1]
          refine ihr (j + 1) v s2 (by omega) hEv hv28 hv29 hsv hsv2 ?_
          rw [← e]
          exact hQ
        simp only [hj1, hi1]
        refine pk_le m j (fun hc => by omega) (fun _ => fun x1 hx1 => ⟨hini, fun hz => ?_, fun hz => ⟨fun hz2 => ?_, fun hz2 s2 hs2 => ⟨hin, ?_⟩⟩⟩) (hx := m1) (ha := by omega) (hb := by omega)
        · rw [hx1, bit_0 (by omega), m4 i j hi.2 hjm] at hz
          have hc : ¬ (met i j = true ∧ s j = false) := by rw [hz]; rintro ⟨a, -⟩; cases a
          exact nxt σ s hE h28 h29 hs hss (by simp [srl, hc])
        · rw [hx1, bit_0 (by omega), hs j hjm] at hz2
          have hc : ¬ (met i j = true ∧ s j = false) := fun a => hz2 a.2
          exact nxt σ s hE h28 h29 hs hss (by simp [srl, hc])
        rw [hx1, bit_0 (by omega), m4 i j hi.2 hjm] at hz
        rw [hx1, bit_0 (by omega), hs j hjm] at hz2
        have hmet : met i j = true := by
          cases e : met i j with
          | true => rfl
          | false => exact absurd e hz
        have hc : met i j = true ∧ s j = false := ⟨hmet, hz2⟩
        have hs0j : s0 j = false := by
          cases e : s0 j with
          | false => rfl
          | true => rw [hss j e] at hz2; cases hz2
        have hTj : T j = false := by
          cases e : T j with
          | false => rfl
          | true => rw [hT0 j e] at hs0j; cases hs0j
        have hE2 : CEq σ0 s2 := by rw [hs2]; exact hE.tr (CEq.tried σ _)
        have g29 : s2 29 = σ0 29 := by rw [hs2]; exact (su_k (k := 26) (q := 29) σ 8 ((σ 26 8) ||| x1) (by decide)).trans h29
        have g28 : s2 28 = σ0 28 := by rw [hs2]; exact (su_k (k := 26) (q := 28) σ 8 ((σ 26 8) ||| x1) (by decide)).trans h28
        have gs : ∀ q, q < m → bt (s2 26 8) q = va_up s j true q := by
          intro q hq
          rw [hs2, su_s, hx1, bt_or_sh (by omega) (by omega), hs q hq]
          by_cases a : q = j
          · subst a; rw [up_s]; simp
          · rw [up_n _ _ a]; simp [a]
        have hs1 : ∀ q, s q = true → va_up s j true q = true := by
          intro q hq
          by_cases a : q = j
          · subst a; exact up_s _ _ _
          · rw [up_n _ _ a]; exact hq
        -- the pair is made
        have got : ∀ (v : St) (g2 : Hs) (s3 : Sn), CEq σ0 v → srl met (srch met m d) i (r + 1) j h s = (true, va_up g2 j (some i), s3) → g2 j = none → ¬ mat m T g2 i → (∀ q l, q < m → T q = true → g2 q = some l → l < b0) → (∀ q, q < m → bt (v 26 8) q = s3 q) → (∀ q, q < m → s0 q = false → q ≠ j → v 29 q = enc (g2 q)) → (∀ q, (m ≤ q ∨ s0 q = true) → v 29 q = σ0 29 q) → MP m v g2 → (∀ l, (∀ q, q < m → va_up g2 j (some i) q ≠ some l) → v 28 l = σ0 28 l) → qX3_reach_81 (pX3_reach d) Q (nI i) (nI j) v := by
          intro v g2 s3 hEv e hgj hgi hgT hv8 hv29 hv29b hvP hvU
          unfold qX3_reach_81
          refine ⟨hini, fun s6 hs6 => ⟨hin, fun s7 hs7 => ?_⟩⟩
          rw [hi1] at hs6
          rw [hj1] at hs7
          have hE6 : CEq σ0 s6 := by rw [hs6]; exact hEv.tr (CEq.up v (by omega) _ _)
          have hE7 : CEq σ0 s7 := by rw [hs7]; exact hE6.tr (CEq.up s6 (by omega) _ _)
          have e26 : s7 26 = v 26 := by
            rw [hs7, su_k (k := 29) (q := 26) _ _ _ (by decide), hs6, su_k (k := 28) (q := 26) _ _ _ (by decide)]
          have e28 : s7 28 = upd (v 28) i (nI j) := by
            rw [hs7, su_k (k := 29) (q := 28) _ _ _ (by decide), hs6]
            simp [st_up]
          have e29 : ∀ q, s7 29 q = if q = j then nI i else v 29 q := by
            intro q
            rw [hs7]
            by_cases a : q = j
            · subst a; rw [su_s]; simp
            · rw [su_j _ _ _ a, hs6, su_k (k := 28) (q := 29) _ _ _ (by decide)]; simp [a]
          have hgi2 : ∀ q l, q < m → g2 q = some l → l ≠ i := by
            intro q l hq e1 e2
            subst e2
            cases hTq : T q with
            | false => exact hgi ⟨q, hq, hTq, e1⟩
            | true =>
              have := hgT q l hq hTq e1
              omega
          have hQ2 := hQ s7 hE7
          rw [e] at hQ2
          refine hQ2 (fun q hq => by rw [e26]; exact hv8 q hq) (fun q hq e1 => ?_) (fun q hq => ?_) (fun q l hq e1 => ?_) (fun l hl => ?_)
          · show s7 29 q = enc (va_up g2 j (some i) q)
            rw [e29]
            by_cases a : q = j
            · subst a; rw [up_s]; simp [enc]
            · rw [up_n _ _ a, if_neg a]; exact hv29 q hq e1 a
          · rw [e29, if_neg]
            · exact hv29b q hq
            · intro a
              subst a
              rcases hq with b | b
              · omega
              · rw [hs0j] at b; cases b
          · have e2 : va_up g2 j (some i) q = some l := e1
            rw [e28]
            by_cases a : q = j
            · subst a
              rw [up_s] at e2
              cases e2
              exact pk_us
            · rw [up_n _ _ a] at e2
              rw [pk_un (hgi2 q l hq e2)]
              exact hvP q l hq e2
          · have hl2 : ∀ q, q < m → va_up g2 j (some i) q ≠ some l := hl
            have hli : l ≠ i := fun a => hl2 j hjm (by rw [up_s, a])
            rw [e28, pk_un hli]
            exact hvU l hl2
        rw [g29, hR0 j hjm hs0j]
        cases hh : h j with
        | none =>
          refine ⟨fun _ => got s2 h (va_up s j true) hE2 (by simp [srl, hc, hh]) hh hf hTb gs (fun q hq e _ => by rw [g29]; exact hR0 q hq e) (fun q _ => by rw [g29]) (fun q l hq e => by rw [g28]; exact hP0 q l hq e) (fun l _ => by rw [g28]), fun hn => absurd neg1_lt hn⟩
        | some l =>
          obtain ⟨hl1, hl2, hl3⟩ := hV.1 j l hjm hTj hh
          have hli : l ≠ i := fun e => hf ⟨j, hjm, hTj, by rw [hh, e]⟩
          refine ⟨fun hn => absurd hn (nI_pos (by omega)), fun _ => ⟨hin, ?_⟩⟩
          have hgj : va_up (va_up h j none) j (some l) = h := by
            rw [bx_uu]
            exact up_id h hh
          have hVg : VT met n m b0 T (va_up h j none) := by
            refine ⟨fun q l2 hqm hTq e => ?_, fun q w l2 h1 h2 h3 h4 e1 e2 => ?_⟩
            · by_cases a : q = j
              · subst a; rw [up_s] at e; cases e
              · rw [up_n _ _ a] at e; exact hV.1 q l2 hqm hTq e
            · by_cases a : q = j
              · subst a; rw [up_s] at e1; cases e1
              · by_cases b : w = j
                · subst b; rw [up_s] at e2; cases e2
                · rw [up_n _ _ a] at e1
                  rw [up_n _ _ b] at e2
                  exact hV.2 q w l2 h1 h2 h3 h4 e1 e2
          have hgf : ¬ mat m T (va_up h j none) l := by
            rintro ⟨q, h1, h2, e⟩
            by_cases a : q = j
            · subst a; rw [up_s] at e; cases e
            · rw [up_n _ _ a] at e; exact a (hV.2 q j l h1 h2 hjm hTj e hh)
          have hgi : ¬ mat m T (va_up h j none) i := by
            rintro ⟨q, h1, h2, e⟩
            by_cases a : q = j
            · subst a; rw [up_s] at e; cases e
            · rw [up_n _ _ a] at e; exact hf ⟨q, h1, h2, e⟩
          have e1 := uns_up hjm hz2
          have e2 := uns_mono (m := m) hss
          have hT1 : ∀ q, T q = true → va_up s j true q = true := fun q e => hs1 q (hss q (hT0 q e))
          have hu1 : uns m (va_up s j true) < d := by omega
          obtain ⟨i1, i2⟩ := srch_ok met n m b0 T d l (va_up h j none) (va_up s j true) hu1 hT1 hVg ⟨hl1, hl2⟩ hgf
          obtain ⟨f1, f2, f3⟩ := srch_fr met m d l (va_up h j none) (va_up s j true)
          have f4 := f3 j (some l) (up_s _ _ _)
          rw [hgj] at f4
          have f5 := f2 j (up_s _ _ _)
          rw [up_s] at f5
          have fid := srch_fail met m d l (va_up h j none) (va_up s j true)
          rw [show nI dp + 1 = nI (dp + 1) from nI_1 dp]
          refine ih l (dp + 1) s2 (va_up h j none) (va_up s j true) _ (hM0.eq hE2) gs hT1 hVg ⟨hl1, hl2⟩ hgf (fun q l2 hq hTq e => ?_) (fun q hq e => ?_) (fun q l2 hq e => ?_) hu1 (by omega) (fun v hEv hv8 hv29 hv29b hvP hvU => ?_)
          · by_cases a : q = j
            · subst a; rw [up_s] at e; cases e
            · rw [up_n _ _ a] at e; exact hTb q l2 hq hTq e
          · by_cases a : q = j
            · subst a; rw [up_s] at e; cases e
            · rw [up_n _ _ a] at e
              rw [up_n _ _ a, g29]
              refine hR0 q hq ?_
              cases e9 : s0 q with
              | false => rfl
              | true => rw [hss q e9] at e; cases e
          · by_cases a : q = j
            · subst a; rw [up_s] at e; cases e
            · rw [up_n _ _ a] at e
              rw [g28]
              exact hP0 q l2 hq e
          · cases hr : srch met m d l (va_up h j none) (va_up s j true) with
            | mk b hs2b =>
              obtain ⟨g2, s3⟩ := hs2b
              rw [hr] at i1 i2 f1 f4 f5 fid hv8 hv29 hvP hvU f2
              have hEv0 : CEq σ0 v := hE2.tr hEv
              have n29 : ∀ q, (m ≤ q ∨ s0 q = true) → v 29 q = σ0 29 q := by
                intro q hq
                rw [hv29b q (hq.imp id (fun e => hs1 q (hss q e))), g29]
              cases b with
              | true =>
                obtain ⟨k1, k2, k3, k4, k5⟩ := i2 rfl
                refine ⟨fun e => absurd e (show ¬ (1 : Int32) = 0 by decide), fun _ => ?_⟩
                refine got v g2 s3 hEv0 (by simp [srl, hc, hh, f4, bx_uu]) f5 (fun e => ((k2 i).mp e).elim hgi (fun e => hli e.symm)) (fun q l2 hq hTq e => ?_) hv8 (fun q hq e hqj => ?_) n29 hvP (fun l2 hl2 => ?_)
                · have e4 : g2 q = va_up h j none q := k4 q (Or.inr hTq)
                  have hqj : q ≠ j := fun a => by subst a; rw [hTj] at hTq; cases hTq
                  rw [e4, up_n _ _ hqj] at e
                  exact hTb q l2 hq hTq e
                · cases e9 : s q with
                  | false => exact hv29 q hq (by rw [up_n _ _ hqj]; exact e9)
                  | true =>
                    have e4 : g2 q = va_up h j none q := f2 q (hs1 q e9)
                    rw [hv29b q (Or.inr (hs1 q e9)), g29, e4, up_n _ _ hqj]
                    exact hR0 q hq e
                · rw [hvU l2 (fun q hq => ?_), g28]
                  have := hl2 q hq
                  by_cases a : q = j
                  · subst a
                    have f6 : g2 q = none := f5
                    show g2 q ≠ some l2
                    rw [f6]
                    intro e; cases e
                  · rw [up_n _ _ a] at this; exact this
              | false =>
                refine ⟨fun _ => ?_, fun e => absurd rfl e⟩
                have e8 : g2 = va_up h j none := fid rfl
                have e9 : va_up g2 j (some l) = h := by rw [e8]; exact hgj
                replace f4 : srch met m d l h (va_up s j true) = (false, va_up g2 j (some l), s3) := f4
                rw [e9] at f4
                have n28 : v 28 = σ0 28 := by
                  funext l2
                  by_cases hex : ∃ q, q < m ∧ g2 q = some l2
                  · obtain ⟨q, hq, e⟩ := hex
                    have e5 : v 28 l2 = nI q := hvP q l2 hq e
                    rw [e8] at e
                    by_cases a : q = j
                    · subst a; rw [up_s] at e; cases e
                    · rw [up_n _ _ a] at e
                      rw [e5, hP0 q l2 hq e]
                  · have e5 : v 28 l2 = s2 28 l2 := hvU l2 (fun q hq e => hex ⟨q, hq, e⟩)
                    rw [e5, g28]
                have n29b : v 29 = σ0 29 := by
                  funext q
                  by_cases hex : m ≤ q ∨ va_up s j true q = true
                  · rw [hv29b q hex, g29]
                  · have hqm : q < m := by
                      rcases Nat.lt_or_ge q m with a | a
                      · exact a
                      · exact absurd (Or.inl a) hex
                    have hsq : va_up s j true q = false := by
                      cases a : va_up s j true q with
                      | false => rfl
                      | true => exact absurd (Or.inr a) hex
                    have hqj : q ≠ j := fun a => by subst a; rw [up_s] at hsq; cases hsq
                    have e5 : v 29 q = enc (g2 q) := hv29 q hqm hsq
                    rw [up_n _ _ hqj] at hsq
                    rw [e5, e8, up_n _ _ hqj]
                    refine (hR0 q hqm ?_).symm
                    cases a : s0 q with
                    | false => rfl
                    | true => rw [hss q a] at hsq; cases hsq
                exact nxt v s3 hEv0 n28 n29b hv8 (fun q e => f1 q (hs1 q (hss q e))) (by simp [srl, hc, hh, f4])
    show pX3_reach_b (pX3_reach d) (nI i) (nI dp) σ0 Q
    unfold pX3_reach_b
    exact pk_le dp 12 (fun _ => ⟨m + 1, key m 0 σ0 s0 (by omega) (CEq.rf σ0) rfl rfl hs0 (fun q e => e) hQ0⟩) (fun hc => by omega) (ha := by omega)
