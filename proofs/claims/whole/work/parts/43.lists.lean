/-! lists of tellings: the class's gather, the model's collect -/
theorem pk_ne {x y : Int32} {A B : Prop} (a b : Nat) (f : a ≠ b → A) (g : a = b → B) (hx : x = nI a := by rfl) (hy : y = nI b := by rfl) (ha : a < 2 ^ 31 := by omega) (hb : b < 2 ^ 31 := by omega) : (¬ x = y → A) ∧ (x = y → B) := ⟨(pk_eq a b g f hx hy ha hb).2, (pk_eq a b g f hx hy ha hb).1⟩
def nthP (P : Nat → Bool) : Nat → Nat → Nat
  | 0, _ => 0
  | n + 1, i => if P n = true ∧ fb_ct P n = i then n else nthP P n i
theorem nth_at {P : Nat → Bool} {s : Nat} (hp : P s = true) : ∀ {n : Nat}, s < n → nthP P n (fb_ct P s) = s := by
  intro n
  induction n with
  | zero => intro h; omega
  | succ n ih =>
    intro h
    unfold nthP
    by_cases e : P n = true ∧ fb_ct P n = fb_ct P s
    · rw [if_pos e]
      exact fb_ct_kth_one e.1 hp e.2
    · rw [if_neg e]
      refine ih ?_
      rcases Nat.lt_or_ge s n with a | a
      · exact a
      · have : s = n := by omega
        subst this
        exact absurd ⟨hp, rfl⟩ e
theorem nth_in {P : Nat → Bool} {n i : Nat} (h : i < fb_ct P n) : nthP P n i < n ∧ P (nthP P n i) = true ∧ fb_ct P (nthP P n i) = i := by
  obtain ⟨s, a, b, c⟩ := fb_ct_kth h
  have e := nth_at b a
  rw [c] at e
  rw [e]
  exact ⟨a, b, c⟩
def ls (A : AS) (d p i : Nat) : Nat := nthP (aAt A d p) (aSh A) i
def cn (A : AS) (d p : Nat) : Nat := fb_ct (aAt A d p) (aSh A)
theorem cn_le {A : AS} (hW : WF A) (d p : Nat) : cn A d p ≤ 12 := Nat.le_trans (fb_ct_mono _ (sh_le A)) (hW.at12 d p)
theorem ct_lt {P : Nat → Bool} {t n : Nat} (hp : P t = true) (ht : t < n) : fb_ct P t < fb_ct P n := by
  have h1 := fb_ct_succ P t
  rw [if_pos hp] at h1
  have h2 := fb_ct_mono P (show t + 1 ≤ n from ht)
  omega
theorem ls_in {A : AS} {d p i : Nat} (h : i < cn A d p) : ls A d p i < aSh A ∧ aDt A (ls A d p i) = d ∧ A 8 (ls A d p i) = p := by
  obtain ⟨a, b, c⟩ := nth_in h
  have e := of_decide_eq_true b
  exact ⟨a, e.1, e.2⟩
theorem ls_inj {A : AS} {d p i j : Nat} (hi : i < cn A d p) (hj : j < cn A d p) (e : ls A d p i = ls A d p j) : i = j := by
  obtain ⟨a, b, c⟩ := nth_in hi
  obtain ⟨a2, b2, c2⟩ := nth_in hj
  have e2 : nthP (aAt A d p) (aSh A) i = nthP (aAt A d p) (aSh A) j := e
  rw [e2, c2] at c
  omega
theorem ls_on {A : AS} {d p t : Nat} (ht : t < aSh A) (h1 : aDt A t = d) (h2 : A 8 t = p) : ∃ i, i < cn A d p ∧ ls A d p i = t := by
  have hp : aAt A d p t = true := decide_eq_true ⟨h1, h2⟩
  exact ⟨fb_ct (aAt A d p) t, ct_lt hp ht, nth_at hp ht⟩
theorem dt_lt {A : AS} (hW : WF A) {t : Nat} (ht : t < A 0 9) : aDt A t < 180 := by
  have := hW.tel t ht
  unfold aDt
  omega
theorem dt_iff {A : AS} (hW : WF A) {t y dy : Nat} (ht : t < A 0 9) (hd : dy < 30) : aDt A t = 30 * y + dy ↔ A 5 t = y ∧ A 6 t = dy := by
  have := hW.tel t ht
  unfold aDt
  omega
theorem gather24_ok {A : AS} {σ0 : St} {d p : Nat} {Q : Int32 → St → Prop} (hC0 : RC σ0 A) (hW : WF A) (hd : d < 180) (hp : p < 100) (hQ : ∀ v, (∀ k, k ≠ 24 → v k = σ0 k) → (∀ i, i < cn A d p → v 24 i = nI (ls A d p i)) → Q (nI (cn A d p)) v) : pX2_gather_a24 (nI d) (nI p) σ0 Q := by
  have h300 := hW.n
  have hsh := sh_le A
  have h12 := cn_le hW d p
  have hp4 := hW.p
  have lp : ∀ (r t : Nat) (σ : St), t + r = aSh A → (∀ k, k ≠ 24 → σ k = σ0 k) → (∀ i, i < fb_ct (aAt A d p) t → σ 24 i = nI (ls A d p i)) → qX2_gather_a24_l6 Q (r + 1) (nI d) (nI p) (nI (fb_ct (aAt A d p) t)) (nI t) σ := by
    intro r
    induction r with
    | zero =>
      intro t σ htr hE hl
      have et : t = aSh A := by omega
      subst et
      show qX2_gather_a24_6 (qX2_gather_a24_l6 Q 0) Q _ _ _ _ _
      unfold qX2_gather_a24_6
      exact pk_le (aSh A) (aSh A) (fun _ => hQ σ hE hl) (fun hc => by omega) (hx := by rw [hE 12 (by decide)]; exact hC0.shown)
    | succ r ih =>
      intro t σ htr hE hl
      have ht : t < A 0 9 := by omega
      have hdt := dt_lt hW ht
      have hpt := (hW.tel t ht).2.2.2.1
      have et : Int32.toNatClampNeg (nI t) = t := nI_clamp (by omega)
      have hin : vp_in (nI t) 300 := vp_in_nI (by omega) (by decide)
      have es := fb_ct_succ (aAt A d p) t
      show qX2_gather_a24_6 (qX2_gather_a24_l6 Q (r + 1)) Q _ _ _ _ _
      unfold qX2_gather_a24_6
      rw [et]
      have skip : ¬ (aDt A t = d ∧ A 8 t = p) → qX2_gather_a24_53 (qX2_gather_a24_l6 Q (r + 1)) Q (nI d) (nI p) (nI (fb_ct (aAt A d p) t)) (nI t) σ := by
        intro hn
        have e0 : aAt A d p t = false := decide_eq_false hn
        rw [e0] at es
        have e1 : fb_ct (aAt A d p) (t + 1) = fb_ct (aAt A d p) t := es
        unfold qX2_gather_a24_53
        intro x hx
        rw [hx, nI_1, ← e1]
        exact ih (t + 1) σ (by omega) hE (by rw [e1]; exact hl)
      refine pk_le (aSh A) t (fun hc => by omega) (fun _ => ⟨hin, ?_⟩) (hx := by rw [hE 12 (by decide)]; exact hC0.shown)
      refine pk_ne (aDt A t) d (fun h => skip (fun a => h a.1)) (fun h1 => ⟨hin, ?_⟩) (hx := by rw [hE 13 (by decide)]; exact hC0.date t ht)
      refine pk_ne (A 8 t) p (fun h => skip (fun a => h a.2)) (fun h2 => ?_) (hx := by rw [hE 15 (by decide)]; exact hC0.post t)
      have e0 : aAt A d p t = true := decide_eq_true ⟨h1, h2⟩
      have hlt : fb_ct (aAt A d p) t < cn A d p := ct_lt e0 (by omega)
      rw [if_pos e0] at es
      refine pk_le 12 (fb_ct (aAt A d p) t) (fun hc => by omega) (fun _ => ⟨vp_in_nI (by omega) (by decide), fun s1 hs1 x2 hx2 => ?_⟩)
      rw [nI_clamp (by omega)] at hs1
      unfold qX2_gather_a24_53
      intro x hx
      rw [hx, nI_1, hx2, nI_1, ← es]
      refine ih (t + 1) s1 (by omega) (fun k hk => by rw [hs1, su_k σ _ _ hk]; exact hE k hk) (fun i hi => ?_)
      rw [hs1]
      by_cases a : i = fb_ct (aAt A d p) t
      · subst a
        rw [su_s]
        show nI t = nI (nthP (aAt A d p) (aSh A) (fb_ct (aAt A d p) t))
        rw [nth_at e0 (by omega)]
      · rw [su_j _ _ _ a]
        exact hl i (by omega)
  unfold pX2_gather_a24
  exact ⟨aSh A + 1, lp (aSh A) 0 σ0 (by omega) (fun _ _ => rfl) (fun i hi => absurd hi (Nat.not_lt_zero _))⟩
theorem gather25_ok {A : AS} {σ0 : St} {d p : Nat} {Q : Int32 → St → Prop} (hC0 : RC σ0 A) (hW : WF A) (hd : d < 180) (hp : p < 100) (hQ : ∀ v, (∀ k, k ≠ 25 → v k = σ0 k) → (∀ i, i < cn A d p → v 25 i = nI (ls A d p i)) → Q (nI (cn A d p)) v) : pX2_gather_a25 (nI d) (nI p) σ0 Q := by
  have h300 := hW.n
  have hsh := sh_le A
  have h12 := cn_le hW d p
  have hp4 := hW.p
  have lp : ∀ (r t : Nat) (σ : St), t + r = aSh A → (∀ k, k ≠ 25 → σ k = σ0 k) → (∀ i, i < fb_ct (aAt A d p) t → σ 25 i = nI (ls A d p i)) → qX2_gather_a25_l6 Q (r + 1) (nI d) (nI p) (nI (fb_ct (aAt A d p) t)) (nI t) σ := by
    intro r
    induction r with
    | zero =>
      intro t σ htr hE hl
      have et : t = aSh A := by omega
      subst et
      show qX2_gather_a25_6 (qX2_gather_a25_l6 Q 0) Q _ _ _ _ _
      unfold qX2_gather_a25_6
      exact pk_le (aSh A) (aSh A) (fun _ => hQ σ hE hl) (fun hc => by omega) (hx := by rw [hE 12 (by decide)]; exact hC0.shown)
    | succ r ih =>
      intro t σ htr hE hl
      have ht : t < A 0 9 := by omega
      have hdt := dt_lt hW ht
      have hpt := (hW.tel t ht).2.2.2.1
      have et : Int32.toNatClampNeg (nI t) = t := nI_clamp (by omega)
      have hin : vp_in (nI t) 300 := vp_in_nI (by omega) (by decide)
      have es := fb_ct_succ (aAt A d p) t
      show qX2_gather_a25_6 (qX2_gather_a25_l6 Q (r + 1)) Q _ _ _ _ _
      unfold qX2_gather_a25_6
      rw [et]
      have skip : ¬ (aDt A t = d ∧ A 8 t = p) → qX2_gather_a25_53 (qX2_gather_a25_l6 Q (r + 1)) Q (nI d) (nI p) (nI (fb_ct (aAt A d p) t)) (nI t) σ := by
        intro hn
        have e0 : aAt A d p t = false := decide_eq_false hn
        rw [e0] at es
        have e1 : fb_ct (aAt A d p) (t + 1) = fb_ct (aAt A d p) t := es
        unfold qX2_gather_a25_53
        intro x hx
        rw [hx, nI_1, ← e1]
        exact ih (t + 1) σ (by omega) hE (by rw [e1]; exact hl)
      refine pk_le (aSh A) t (fun hc => by omega) (fun _ => ⟨hin, ?_⟩) (hx := by rw [hE 12 (by decide)]; exact hC0.shown)
      refine pk_ne (aDt A t) d (fun h => skip (fun a => h a.1)) (fun h1 => ⟨hin, ?_⟩) (hx := by rw [hE 13 (by decide)]; exact hC0.date t ht)
      refine pk_ne (A 8 t) p (fun h => skip (fun a => h a.2)) (fun h2 => ?_) (hx := by rw [hE 15 (by decide)]; exact hC0.post t)
      have e0 : aAt A d p t = true := decide_eq_true ⟨h1, h2⟩
      have hlt : fb_ct (aAt A d p) t < cn A d p := ct_lt e0 (by omega)
      rw [if_pos e0] at es
      refine pk_le 12 (fb_ct (aAt A d p) t) (fun hc => by omega) (fun _ => ⟨vp_in_nI (by omega) (by decide), fun s1 hs1 x2 hx2 => ?_⟩)
      rw [nI_clamp (by omega)] at hs1
      unfold qX2_gather_a25_53
      intro x hx
      rw [hx, nI_1, hx2, nI_1, ← es]
      refine ih (t + 1) s1 (by omega) (fun k hk => by rw [hs1, su_k σ _ _ hk]; exact hE k hk) (fun i hi => ?_)
      rw [hs1]
      by_cases a : i = fb_ct (aAt A d p) t
      · subst a
        rw [su_s]
        show nI t = nI (nthP (aAt A d p) (aSh A) (fb_ct (aAt A d p) t))
        rw [nth_at e0 (by omega)]
      · rw [su_j _ _ _ a]
        exact hl i (by omega)
  unfold pX2_gather_a25
  exact ⟨aSh A + 1, lp (aSh A) 0 σ0 (by omega) (fun _ _ => rfl) (fun i hi => absurd hi (Nat.not_lt_zero _))⟩
