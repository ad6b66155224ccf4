/-! canTake(): the later lefts that have none may make the lost pair good -/
set_option maxHeartbeats 4000000 in
theorem tries_ok {m n i : Nat} {met : Nat → Nat → Bool} {T' : Sn} {x1 : Int32} {σ0 : St} {h1 : Hs} {Q : Int32 → St → Prop} (hM0 : CMet m n σ0 met) (h5 : σ0 26 5 = nI n) (hset : ∀ q, q < m → bt ((σ0 26 7) ||| x1) q = T' q) (hTm : ∀ q, m ≤ q → T' q = false) (hTb : ∀ q l, q < m → T' q = true → h1 q = some l → l < i + 1) (hV1 : VT met n m (i + 1) T' h1)
    (hQ1 : ∀ v h2, CEq σ0 v → CF m n v h2 → VT met n m (i + 1) T' h2 → (∀ q, q < m → T' q = true → h2 q = h1 q) → szT m T' h2 = szT m T' h1 + 1 → Q 1 v)
    (hQ0 : ∀ v, CEq σ0 v → IsMax met n m (i + 1) T' (szT m T' h1) → pX3_restore v (fun s => narrow .boolean (.int 0) = .int 0 ∧ Q 0 s)) :
    ∀ (r o : Nat) (σ : St) (Z : Sn), o + r = n → i + 1 ≤ o → CEq σ0 σ → CF m n σ h1 → Zcl met m T' h1 Z → (∀ l, i + 1 ≤ l → l < o → mat m T' h1 l ∨ ∀ q, q < m → met l q = true → T' q = true ∨ Z q = true) → qX3_canTake_l120 Q (r + 2) x1 0 (nI o) σ := by
  have hm12 := hM0.2.1
  have hn12 := hM0.2.2.1
  intro r
  induction r with
  | zero =>
    intro o σ Z hor hio hE hF hZ hL
    have eo : o = n := by omega
    subst eo
    show qX3_canTake_120 (qX3_canTake_l120 Q 1) Q _ _ _ _
    unfold qX3_canTake_120
    refine pk_le o o (fun _ => ?_) (fun hc => by omega) (hx := by rw [hE.2 5 (by decide)]; exact h5) (ha := by omega) (hb := by omega)
    unfold qX3_canTake_177
    exact ⟨fun e => absurd rfl e, fun _ => hQ0 σ hE ⟨⟨h1, hV1, rfl⟩, cover hZ hL⟩⟩
  | succ r ih =>
    intro o σ Z hor hio hE hF hZ hL
    have ho : o < n := by omega
    have ho1 : Int32.toNatClampNeg (nI o) = o := nI_clamp (by omega)
    show qX3_canTake_120 (qX3_canTake_l120 Q (r + 2)) Q _ _ _ _
    unfold qX3_canTake_120
    refine pk_le n o (fun hc => by omega) (fun _ => ⟨fun e => absurd rfl e, fun _ => fun s11 hs11 => ⟨vp_in_nI (by omega) (by decide), ?_⟩⟩) (hx := by rw [hE.2 5 (by decide)]; exact h5) (ha := by omega) (hb := by omega)
    rw [ho1]
    have e7 : σ 26 7 = σ0 26 7 := hE.2 7 (by decide)
    rw [e7] at hs11
    have hE11 : CEq σ0 s11 := by rw [hs11]; exact hE.tr (CEq.tried σ _)
    have g28 : s11 28 = σ 28 := by rw [hs11]; exact su_k (k := 26) (q := 28) σ 8 ((σ0 26 7) ||| x1) (by decide)
    have g29 : s11 29 = σ 29 := by rw [hs11]; exact su_k (k := 26) (q := 29) σ 8 ((σ0 26 7) ||| x1) (by decide)
    obtain ⟨f1, f2, f3, f4⟩ := hF
    have nxt : ∀ (v : St) (Z2 : Sn), CEq σ0 v → CF m n v h1 → Zcl met m T' h1 Z2 → (∀ l, i + 1 ≤ l → l < o + 1 → mat m T' h1 l ∨ ∀ q, q < m → met l q = true → T' q = true ∨ Z2 q = true) → qX3_canTake_168 (qX3_canTake_l120 Q (r + 2)) Q x1 (nI o) v := by
      intro v Z2 hEv hFv hZv hLv
      unfold qX3_canTake_168 qX3_canTake_169
      intro x hx
      rw [hx, nI_1]
      exact ih (o + 1) v Z2 (by omega) (by omega) hEv hFv hZv hLv
    have hF11 : CF m n s11 h1 := ⟨fun q hq => by rw [g29]; exact f1 q hq, fun q l hq e => by rw [g28]; exact f2 q l hq e, fun l hl hno => by rw [g28]; exact f3 l hl hno, f4⟩
    rw [g28]
    by_cases hmt : ∃ q, q < m ∧ h1 q = some o
    · -- it has one
      obtain ⟨q, hq, eq⟩ := hmt
      rw [f2 q o hq eq]
      refine ⟨fun _ => nxt s11 Z hE11 hF11 hZ (fun l h2 h3 => ?_), fun e => absurd (nI_pos' (by omega)) e⟩
      by_cases a : l = o
      · subst a
        refine Or.inl ⟨q, hq, ?_, eq⟩
        cases e : T' q with
        | false => rfl
        | true => have := hTb q l hq e eq; omega
      · exact hL l h2 (by omega)
    · rw [f3 o ho (fun q hq e => hmt ⟨q, hq, e⟩)]
      refine ⟨fun e => absurd e (by decide), fun _ => ?_⟩
      have hfr : ¬ mat m T' h1 o := fun ⟨q, q1, _, q3⟩ => hmt ⟨q, q1, q3⟩
      have hu : uns m T' < 14 := by have := uns_le m T'; omega
      have hu2 : 0 + uns m T' ≤ 12 := by have := uns_le m T'; omega
      obtain ⟨ok1, ok2⟩ := srch_ok met n m (i + 1) T' 14 o h1 T' hu (fun q e => e) hV1 ⟨hio, ho⟩ hfr
      have fid := srch_fail met m 14 o h1 T'
      refine reach_ok (b0 := i + 1) (T := T') 14 o 0 s11 h1 T' _ (hM0.eq hE11) (fun q hq => by rw [hs11, su_s]; exact hset q hq) (fun q e => e) hV1 ⟨hio, ho⟩ hfr hTb (fun q hq _ => hF11.1 q hq) hF11.2.1 hu hu2 (fun v hEv hv8 hv29 hv29b hvP hvU => ?_)
      have hEv0 := hE11.tr hEv
      cases hr : srch met m 14 o h1 T' with
      | mk b hs2 =>
        obtain ⟨h2, s2⟩ := hs2
        rw [hr] at ok1 ok2 fid hv29 hvP hvU
        cases b with
        | true =>
          obtain ⟨k1, k2, k3, k4, k5⟩ := ok2 rfl
          refine ⟨fun e => absurd e (show ¬ (1 : Int32) = 0 by decide), fun _ => ?_⟩
          have hT2 : ∀ q, q < m → T' q = true → h2 q = h1 q := fun q _ e => k4 q (Or.inr e)
          have hQv : Q 1 v := by
            refine hQ1 v h2 hEv0 ⟨fun q hq => ?_, hvP, fun l hl hno => ?_, fun q l hq e => ?_⟩ k1 hT2 k3
            · cases e : T' q with
              | false => exact hv29 q hq e
              | true => rw [hv29b q (Or.inr e), hF11.1 q hq, hT2 q hq e]
            · have e1 : v 28 l = s11 28 l := hvU l hno
              rw [e1]
              refine hF11.2.2.1 l hl (fun q hq e => ?_)
              cases eT : T' q with
              | true => exact hno q hq (by rw [hT2 q hq eT]; exact e)
              | false =>
                obtain ⟨w, w1, w2, w3⟩ := (k2 l).mpr (Or.inl ⟨q, hq, eT, e⟩)
                exact hno w w1 w3
            · cases eT : T' q with
              | true => rw [hT2 q hq eT] at e; exact f4 q l hq e
              | false => exact (k1.1 q l hq eT e).2.1
          unfold qX3_canTake_169
          intro x hx
          show qX3_canTake_120 (qX3_canTake_l120 Q (r + 1)) Q _ _ _ _
          unfold qX3_canTake_120
          have h177 : qX3_canTake_177 Q 1 v := by
            unfold qX3_canTake_177
            exact ⟨fun _ => ⟨rfl, hQv⟩, fun e => absurd e (by decide)⟩
          exact ⟨fun _ => h177, fun _ => ⟨fun _ => h177, fun e => absurd e (by decide)⟩⟩
        | false =>
          refine ⟨fun _ => ?_, fun e => absurd rfl e⟩
          have e8 : h2 = h1 := fid rfl
          subst e8
          obtain ⟨Z2, a1, a2, a3⟩ := dead_grow hZ (fun q e => e) (ok1 rfl)
          refine nxt v Z2 hEv0 ⟨fun q hq => ?_, hvP, fun l hl hno => ?_, f4⟩ a1 (fun l h2a h3a => ?_)
          · cases e : T' q with
            | false => exact hv29 q hq e
            | true => rw [hv29b q (Or.inr e)]; exact hF11.1 q hq
          · have e1 : v 28 l = s11 28 l := hvU l hno
            rw [e1]
            exact hF11.2.2.1 l hl hno
          · by_cases a : l = o
            · subst a; exact Or.inr a3
            · rcases hL l h2a (by omega) with x | x
              · exact Or.inl x
              · exact Or.inr (fun q hq e => (x q hq e).elim Or.inl (fun y => Or.inr (a2 q y)))
