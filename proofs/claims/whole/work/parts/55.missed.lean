/-! missed: the birds that passed in hours off -/
theorem pkL {x : Int64} {P R : Prop} (a : Nat) (f : a = 0 → P) (g : 0 < a → R) (hx : x = lN a) (ha : a < 2 ^ 63) : (lg_cmp x 0 ≤ 0 → P) ∧ (¬ lg_cmp x 0 ≤ 0 → R) := by
  have e : lg_cmp x 0 ≤ 0 ↔ a = 0 := by
    rw [lg_cmp_le, hx, show (0 : Int64) = lN 0 from rfl, pk_lLE ha (by decide)]
    omega
  exact ⟨fun h => f (e.mp h), fun h => g (by
    have : ¬ a = 0 := fun c => h (e.mpr c)
    omega)⟩
def prB (f : Nat → Nat) : Nat → Nat
  | 0 => 1
  | n + 1 => prB f n * f n
def prT (f x : Nat → Nat) : Nat → Nat
  | 0 => 0
  | n + 1 => prT f x n * f n + x n * prB f n
def mdI (f : Nat → Nat) (w x : Nat) : Nat → Nat
  | 0 => x
  | n + 1 => if n = w then mdI f w x n else mdI f w x n * f n
theorem sm4 (f : Nat → Nat) : fb_sm f 4 = f 0 + f 1 + f 2 + f 3 := by simp [fb_sm]
theorem mdI_prT (f x : Nat → Nat) : fb_sm (fun w => mdI f w (x w) 4) 4 = prT f x 4 := by
  rw [sm4]
  simp [mdI, prT, prB, Nat.add_mul, Nat.mul_comm, Nat.mul_left_comm, Nat.mul_assoc]
theorem prB_pos {f : Nat → Nat} : ∀ n, (∀ w, w < n → 1 ≤ f w) → 1 ≤ prB f n := by
  intro n
  induction n with
  | zero => intro _; exact Nat.le_refl 1
  | succ n ih =>
    intro h
    exact Nat.mul_pos (ih (fun w hw => h w (by omega))) (h n (by omega))
theorem prB_le {f : Nat → Nat} : ∀ n, (∀ w, w < n → f w ≤ 300) → prB f n ≤ 300 ^ n := by
  intro n
  induction n with
  | zero => intro _; exact Nat.le_refl 1
  | succ n ih =>
    intro h
    rw [Nat.pow_succ]
    exact Nat.mul_le_mul (ih (fun w hw => h w (by omega))) (h n (by omega))
theorem prT_le {f x : Nat → Nat} : ∀ n, (∀ w, w < n → 1 ≤ f w) → prT f x n ≤ prB f n * fb_sm x n := by
  intro n
  induction n with
  | zero => intro _; exact Nat.zero_le _
  | succ n ih =>
    intro h
    have a := ih (fun w hw => h w (by omega))
    have b := h n (by omega)
    have c : prT f x n * f n ≤ prB f n * fb_sm x n * f n := Nat.mul_le_mul_right _ a
    have d : x n * prB f n ≤ x n * prB f n * f n := Nat.le_mul_of_pos_right _ b
    show prT f x n * f n + x n * prB f n ≤ prB f n * f n * (fb_sm x n + x n)
    have e : prB f n * f n * (fb_sm x n + x n) = prB f n * fb_sm x n * f n + x n * prB f n * f n := by
      rw [Nat.mul_add]
      congr 1
      · rw [Nat.mul_assoc, Nat.mul_comm (f n), ← Nat.mul_assoc]
      · rw [Nat.mul_comm (prB f n * f n), ← Nat.mul_assoc]
    omega
noncomputable def fD (A : AS) (y w : Nat) : Nat := if hoW A y w = 0 then (if hoA A y = 0 then 1 else hoA A y) else hoW A y w
noncomputable def xU (A : AS) (y w : Nat) : Nat := hsW A y w * (if hoW A y w = 0 then (if hoA A y = 0 then 0 else bn A y) else sn A y w)
noncomputable def ms (A : AS) (y : Nat) : Nat := 1000 * prT (fD A y) (xU A y) 4 / prB (fD A y) 4
theorem hoA_le (A : AS) (y : Nat) : hoA A y ≤ 300 := fb_sm_bound (c := 10) (fun d _ => Nat.sub_le 10 _)
theorem hsA_le (A : AS) (y : Nat) : hsA A y ≤ 300 := fb_sm_bound (c := 10) (fun d _ => ho_le A _)
theorem hoW_le (A : AS) (y w : Nat) : hoW A y w ≤ 300 := fb_sm_bound (c := 10) (fun d _ => by split <;> omega)
theorem hsW_le (A : AS) (y w : Nat) : hsW A y w ≤ 300 := fb_sm_bound (c := 10) (fun d _ => by have := ho_le A (30 * y + d); split <;> omega)
theorem bn_le {A : AS} (hW : WF A) (y : Nat) : bn A y ≤ 300 := ct_300 hW _ (Nat.le_refl _)
theorem sn_le {A : AS} (hW : WF A) (y w : Nat) : sn A y w ≤ 300 := ct_300 hW _ (Nat.le_refl _)
theorem sum4 (g f : Nat → Nat) : ∀ n, (∀ d, d < n → g d < 4) → fb_sm (fun w => fb_sm (fun d => if g d = w then f d else 0) n) 4 = fb_sm f n := by
  intro n
  induction n with
  | zero => intro _; rfl
  | succ n ih =>
    intro h
    have a := ih (fun d hd => h d (by omega))
    have b := h n (by omega)
    rw [sm4] at a ⊢
    simp only [fb_sm_succ]
    rcases (show g n = 0 ∨ g n = 1 ∨ g n = 2 ∨ g n = 3 by omega) with e | e | e | e
    · simp [e]; omega
    · simp [e]; omega
    · simp [e]; omega
    · simp [e]; omega
theorem ct4 (g : Nat → Nat) (P : Nat → Bool) : ∀ n, (∀ d, d < n → g d < 4) → fb_sm (fun w => fb_ct (fun t => P t && decide (g t = w)) n) 4 = fb_ct P n := by
  intro n
  induction n with
  | zero => intro _; rfl
  | succ n ih =>
    intro h
    have a := ih (fun d hd => h d (by omega))
    have b := h n (by omega)
    rw [sm4] at a ⊢
    simp only [fb_ct_succ]
    rcases (show g n = 0 ∨ g n = 1 ∨ g n = 2 ∨ g n = 3 by omega) with e | e | e | e
    · cases P n <;> simp [e] <;> omega
    · cases P n <;> simp [e] <;> omega
    · cases P n <;> simp [e] <;> omega
    · cases P n <;> simp [e] <;> omega
theorem hoW_4 {A : AS} (hW : WF A) (y : Nat) : fb_sm (hoW A y) 4 = hoA A y := sum4 (fun d => A 12 (30 * y + d)) (fun d => 10 - ho A (30 * y + d)) 30 (fun d _ => hW.wd _)
theorem hsW_4 {A : AS} (hW : WF A) (y : Nat) : fb_sm (hsW A y) 4 = hsA A y := sum4 (fun d => A 12 (30 * y + d)) (fun d => ho A (30 * y + d)) 30 (fun d _ => hW.wd _)
theorem sn_4 {A : AS} (hW : WF A) (y : Nat) : fb_sm (sn A y) 4 = bn A y := ct4 (fun t => A 12 (aDt A t)) (isb A y) (aSh A) (fun d _ => hW.wd _)
theorem fD_in (A : AS) (y w : Nat) : 1 ≤ fD A y w ∧ fD A y w ≤ 300 := by
  have := hoA_le A y
  have := hoW_le A y w
  unfold fD
  split
  · split <;> omega
  · omega
theorem xU_sum {A : AS} (hW : WF A) (y : Nat) : fb_sm (xU A y) 4 ≤ 90000 := by
  have b := bn_le hW y
  have h1 : ∀ w, xU A y w ≤ hsW A y w * 300 := fun w => by
    have := sn_le hW y w
    unfold xU
    refine Nat.mul_le_mul_left _ ?_
    split
    · split <;> omega
    · omega
  have h2 := hsW_4 hW y
  have h3 := hsA_le A y
  rw [sm4] at h2 ⊢
  have a0 := h1 0
  have a1 := h1 1
  have a2 := h1 2
  have a3 := h1 3
  omega
theorem prB_in (A : AS) (y n : Nat) (hn : n ≤ 4) : 1 ≤ prB (fD A y) n ∧ prB (fD A y) n ≤ 8100000000 := by
  refine ⟨prB_pos n (fun w _ => (fD_in A y w).1), ?_⟩
  have h := prB_le n (f := fD A y) (fun w _ => (fD_in A y w).2)
  have h2 : 300 ^ n ≤ 300 ^ 4 := Nat.pow_le_pow_right (by decide) hn
  have h3 : (300 : Nat) ^ 4 = 8100000000 := by decide
  omega
theorem prT_in {A : AS} (hW : WF A) (y : Nat) : prT (fD A y) (xU A y) 4 ≤ prB (fD A y) 4 * 90000 := Nat.le_trans (prT_le 4 (fun w _ => (fD_in A y w).1)) (Nat.mul_le_mul_left _ (xU_sum hW y))
theorem ms_le {A : AS} (hW : WF A) (y : Nat) : ms A y ≤ 90000000 := by
  have h := prT_in hW y
  unfold ms
  refine Nat.div_le_of_le_mul ?_
  omega
/-! the class -/
theorem c_clear4 {σ0 : St} {Q : St → Prop} (hQ : ∀ v, (∀ k, k ≠ 37 → k ≠ 38 → k ≠ 39 → v k = σ0 k) → (∀ w, w < 4 → v 37 w = 0 ∧ v 38 w = 0 ∧ v 39 w = 0) → Q v) : pX4_clear σ0 Q := by
  unfold pX4_clear
  refine lpS (fun m i σ => qX4_clear_l2 Q m i σ) (fun i σ => (∀ k, k ≠ 37 → k ≠ 38 → k ≠ 39 → σ k = σ0 k) ∧ ∀ w, w < i → σ 37 w = 0 ∧ σ 38 w = 0 ∧ σ 39 w = 0) 4 (fun m σ hI => ?_) (fun m i σ hi hI ih => ?_) σ0 ⟨fun _ _ _ _ => rfl, fun d hd => absurd hd (Nat.not_lt_zero _)⟩
  · show qX4_clear_2 (qX4_clear_l2 Q m) Q _ _
    unfold qX4_clear_2
    exact pk_le 4 4 (fun _ => hQ σ hI.1 hI.2) (fun h => by omega)
  · have hin : vp_in (nI i) 4 := vp_in_nI hi (by decide)
    show qX4_clear_2 (qX4_clear_l2 Q m) Q _ _
    unfold qX4_clear_2
    rw [nI_clamp (n := i) (by omega)]
    refine pk_le 4 i (fun h => by omega) (fun _ => ⟨hin, fun s1 h1 => ⟨hin, fun s2 h2 => ⟨hin, fun s3 h3 x hx => ?_⟩⟩⟩)
    rw [hx, nI_1]
    have g37 : s3 37 = s1 37 := by rw [h3, su_k (k := 39) (q := 37) _ _ _ (by decide), h2, su_k (k := 38) (q := 37) _ _ _ (by decide)]
    have g38 : s3 38 = s2 38 := by rw [h3, su_k (k := 39) (q := 38) _ _ _ (by decide)]
    refine ih s3 ⟨fun k a b c => by rw [h3, su_k _ _ _ c, h2, su_k _ _ _ b, h1, su_k _ _ _ a]; exact hI.1 k a b c, fun w hw => ?_⟩
    by_cases a : w = i
    · subst a
      exact ⟨by rw [g37, h1, su_s], by rw [g38, h2, su_s], by rw [h3, su_s]⟩
    · obtain ⟨b1, b2, b3⟩ := hI.2 w (by omega)
      refine ⟨?_, ?_, ?_⟩
      · rw [g37, h1, su_j _ _ _ a]; exact b1
      · rw [g38, h2, su_j _ _ _ a, h1, su_k (k := 37) (q := 38) _ _ _ (by decide)]; exact b2
      · rw [h3, su_j _ _ _ a, h2, su_k (k := 38) (q := 39) _ _ _ (by decide), h1, su_k (k := 37) (q := 39) _ _ _ (by decide)]; exact b3
theorem c_sum37 {σ : St} {Q : Int32 → St → Prop} {f : Nat → Nat} (hf : ∀ w, w < 4 → σ 37 w = nI (f w)) (hQ : Q (nI (fb_sm f 4)) σ) : pX4_sum_a37 σ Q := by
  unfold pX4_sum_a37
  refine lpG (fun n c i => qX4_sum_a37_l4 Q n c i σ) (fb_sm f) 4 rfl (fun n => ?_) (fun n i hi ih => ?_)
  · show qX4_sum_a37_4 (qX4_sum_a37_l4 Q n) Q _ _ _
    unfold qX4_sum_a37_4
    exact pk_le 4 4 (fun _ => hQ) (fun h => by omega)
  · show qX4_sum_a37_4 (qX4_sum_a37_l4 Q n) Q _ _ _
    unfold qX4_sum_a37_4
    rw [nI_clamp (n := i) (by omega), hf i hi]
    refine pk_le 4 i (fun h => by omega) (fun _ => ⟨vp_in_nI hi (by decide), fun x hx x2 hx2 => ?_⟩)
    rw [hx2, hx, nI_1, nI_add]
    exact ih
theorem c_sum38 {σ : St} {Q : Int32 → St → Prop} {f : Nat → Nat} (hf : ∀ w, w < 4 → σ 38 w = nI (f w)) (hQ : Q (nI (fb_sm f 4)) σ) : pX4_sum_a38 σ Q := by
  unfold pX4_sum_a38
  refine lpG (fun n c i => qX4_sum_a38_l4 Q n c i σ) (fb_sm f) 4 rfl (fun n => ?_) (fun n i hi ih => ?_)
  · show qX4_sum_a38_4 (qX4_sum_a38_l4 Q n) Q _ _ _
    unfold qX4_sum_a38_4
    exact pk_le 4 4 (fun _ => hQ) (fun h => by omega)
  · show qX4_sum_a38_4 (qX4_sum_a38_l4 Q n) Q _ _ _
    unfold qX4_sum_a38_4
    rw [nI_clamp (n := i) (by omega), hf i hi]
    refine pk_le 4 i (fun h => by omega) (fun _ => ⟨vp_in_nI hi (by decide), fun x hx x2 hx2 => ?_⟩)
    rw [hx2, hx, nI_1, nI_add]
    exact ih
theorem c_thousandths {A : AS} {y : Nat} {σ : St} {Q : Int32 → St → Prop} (hW : WF A) (h37 : ∀ w, w < 4 → σ 37 w = nI (sn A y w)) (h38 : ∀ w, w < 4 → σ 38 w = nI (hoW A y w)) (h39 : ∀ w, w < 4 → σ 39 w = nI (hsW A y w)) (hQ : Q (nI (ms A y)) σ) : pX4_thousandths σ Q := by
  have hb := bn_le hW y
  have hA := hoA_le A y
  unfold pX4_thousandths
  refine c_sum37 h37 (c_sum38 h38 ?_)
  rw [sn_4 hW, hoW_4 hW]
  have key : ∀ (r i : Nat), i + r = 4 → qX4_thousandths_l24 Q (r + 1) (nI (bn A y)) (nI (hoA A y)) (lN (prT (fD A y) (xU A y) i)) (lN (prB (fD A y) i)) (nI i) σ := by
    intro r
    induction r with
    | zero =>
      intro i hi
      have e : i = 4 := by omega
      subst e
      have hB := prB_in A y 4 (by omega)
      have hT := prT_in hW y
      show qX4_thousandths_24 (qX4_thousandths_l24 Q 0) Q _ _ _ _ _ _
      unfold qX4_thousandths_24
      refine pk_le 4 4 (fun _ => ⟨fun _ => ?_, fun h => ?_⟩) (fun h => by omega)
      · refine ⟨fun h => ?_, ?_⟩
        · have := (pk_lEQ (b := 0) (by omega) (by decide)).mp h
          omega
        · rw [show (1000 : Int64) = lN 1000 from rfl, lN_mul, pk_lDiv (by omega) (by omega) (by omega), lN_i]
          exact hQ
      · rw [lg_cmp_gt, show (0 : Int64) = lN 0 from rfl, pk_lLT (by decide) (by omega)] at h
        omega
    | succ r ih =>
      intro i hi
      have hi4 : i < 4 := by omega
      have hin : vp_in (nI i) 4 := vp_in_nI hi4 (by decide)
      have nx := ih (i + 1) (by omega)
      have b1 := hoW_le A y i
      have b2 := hsW_le A y i
      have b3 := sn_le hW y i
      show qX4_thousandths_24 (qX4_thousandths_l24 Q (r + 1)) Q _ _ _ _ _ _
      unfold qX4_thousandths_24
      rw [nI_clamp (n := i) (by omega), h38 i hi4, h37 i hi4]
      -- one wind
      have one : ∀ c h : Nat, c ≤ 300 → h ≤ 300 → (h = 0 → fD A y i = 1 ∧ xU A y i = 0) → (0 < h → fD A y i = h ∧ xU A y i = hsW A y i * c) → qX4_thousandths_78 (qX4_thousandths_l24 Q (r + 1)) Q (nI (bn A y)) (nI (hoA A y)) (lN (prT (fD A y) (xU A y) i)) (lN (prB (fD A y) i)) (nI i) (Int32.toInt64 (nI c)) (Int32.toInt64 (nI h)) σ := by
        intro c h hc hh g0 g1
        unfold qX4_thousandths_78
        rw [nI_l (by omega), nI_l (by omega), nI_clamp (n := i) (by omega), h39 i hi4, nI_l (by omega)]
        refine pkL h (fun e => ?_) (fun e => ⟨hin, fun x5 hx5 x6 hx6 => ?_⟩) rfl (by omega)
        · obtain ⟨e1, e2⟩ := g0 e
          unfold qX4_thousandths_114
          intro x hx
          rw [hx, nI_1]
          have t1 : prT (fD A y) (xU A y) (i + 1) = prT (fD A y) (xU A y) i := by
            show prT (fD A y) (xU A y) i * fD A y i + xU A y i * prB (fD A y) i = _
            rw [e1, e2, Nat.mul_one, Nat.zero_mul, Nat.add_zero]
          have t2 : prB (fD A y) (i + 1) = prB (fD A y) i := by
            show prB (fD A y) i * fD A y i = _
            rw [e1, Nat.mul_one]
          rw [t1, t2] at nx
          exact nx
        · obtain ⟨e1, e2⟩ := g1 e
          unfold qX4_thousandths_114
          intro x hx
          rw [hx, nI_1, hx5, hx6, lN_mul, lN_mul, lN_mul, lN_mul, lN_add]
          have t1 : prT (fD A y) (xU A y) (i + 1) = prT (fD A y) (xU A y) i * h + hsW A y i * c * prB (fD A y) i := by
            show prT (fD A y) (xU A y) i * fD A y i + xU A y i * prB (fD A y) i = _
            rw [e1, e2]
          have t2 : prB (fD A y) (i + 1) = prB (fD A y) i * h := by
            show prB (fD A y) i * fD A y i = _
            rw [e1]
          rw [t1, t2] at nx
          exact nx
      refine pk_le 4 i (fun h => by omega) (fun _ => ⟨hin, pk_le (hoW A y i) 0 (fun h0 => ?_) (fun h0 => ⟨hin, ?_⟩)⟩)
      · unfold qX4_thousandths_53
        rw [nI_clamp (n := i) (by omega), h38 i hi4]
        refine ⟨hin, pk_le (hoW A y i) 0 (fun _ => ?_) (fun h => by omega)⟩
        have z : hoW A y i = 0 := by omega
        refine one (bn A y) (hoA A y) (by omega) (by omega) (fun e => ?_) (fun e => ?_)
        · unfold fD xU
          rw [if_pos z, if_pos z, if_pos e, if_pos e, Nat.mul_zero]
          exact ⟨rfl, rfl⟩
        · unfold fD xU
          rw [if_pos z, if_pos z, if_neg (by omega), if_neg (by omega)]
          exact ⟨rfl, rfl⟩
      · unfold qX4_thousandths_53
        rw [nI_clamp (n := i) (by omega), h38 i hi4]
        refine ⟨hin, pk_le (hoW A y i) 0 (fun h => by omega) (fun _ => ⟨hin, ?_⟩)⟩
        refine one (sn A y i) (hoW A y i) (by omega) (by omega) (fun e => by omega) (fun e => ?_)
        unfold fD xU
        rw [if_neg (by omega), if_neg (by omega)]
        exact ⟨rfl, rfl⟩
  exact ⟨5, key 4 0 (by omega)⟩
theorem c_missedOf {A : AS} {y : Nat} {σ0 : St} {Q : Int32 → St → Prop} (hC : RC σ0 A) (hW : WF A) (hY : YC A y σ0) (hy : y < 6) (hQ : ∀ v, (∀ k, k ≠ 37 → k ≠ 38 → k ≠ 39 → v k = σ0 k) → Q (nI (ms A y)) v) : pX8_missedOf (nI y) σ0 Q := by
  have rc : ∀ v : St, (∀ k, k ≠ 37 → k ≠ 38 → k ≠ 39 → v k = σ0 k) → RC v A := fun v h => hC.eq (fun k a => by
    have a2 : k ≠ 37 ∧ k ≠ 38 ∧ k ≠ 39 := by
      unfold isW at a
      have := of_decide_eq_true a
      omega
    exact h k a2.1 a2.2.1 a2.2.2)
  unfold pX8_missedOf
  refine c_clear4 (fun v1 k1 z1 => ?_)
  refine c_addHours (rc v1 k1) hW hy (fun w hw => ⟨(z1 w hw).2.1, (z1 w hw).2.2⟩) (fun v2 k2 r2 => ?_)
  have k12 : ∀ k, k ≠ 37 → k ≠ 38 → k ≠ 39 → v2 k = σ0 k := fun k a b c => (k2 k b c).trans (k1 k a b c)
  refine c_addWinds (rc v2 k12) hW (hY.eq (fun k a b => k12 k (by omega) (by omega) (by omega))) hy (fun w hw => by rw [k2 37 (by decide) (by decide)]; exact (z1 w hw).1) (fun v3 k3 r3 => ?_)
  refine c_thousandths hW r3 (fun w hw => by rw [k3 38 (by decide)]; exact (r2 w hw).1) (fun w hw => by rw [k3 39 (by decide)]; exact (r2 w hw).2) (hQ v3 (fun k a b c => (k3 k a).trans (k12 k a b c)))
theorem c_totalOf {A : AS} {y : Nat} {σ0 : St} {Q : Int32 → St → Prop} (hC : RC σ0 A) (hW : WF A) (hY : YC A y σ0) (hy : y < 6) (hQ : ∀ v, (∀ k, k ≠ 37 → k ≠ 38 → k ≠ 39 → v k = σ0 k) → Q (nI (1000 * bn A y + ms A y)) v) : pX8_totalOf (nI y) σ0 Q := by
  unfold pX8_totalOf
  refine c_birdsIn hC hW hY hy (c_missedOf hC hW hY hy (fun v hv => ?_))
  rw [show (1000 : Int32) = nI 1000 from rfl, pk_mul, nI_add]
  exact hQ v hv
/-! the model -/
theorem suL_k (f : Lt) {k q : Nat} (j : Nat) (v : Int64) (h : q ≠ k) : st_upL f k j v q = f q := if_neg h
theorem suL_s (f : Lt) (k j : Nat) (v : Int64) : st_upL f k j v k j = v := by simp [st_upL, vp_updL]
theorem suL_j (f : Lt) (k : Nat) {j i : Nat} (v : Int64) (h : i ≠ j) : st_upL f k j v k i = f k i := by simp [st_upL, vp_updL, h]
theorem m_missed_end {A : AS} {y : Nat} {u : SM} {Q : Int64 → SM → Prop} (hW : WF A) (h25 : ∀ w, w < 4 → u.2 25 w = lN (xU A y w)) (h26 : ∀ w, w < 4 → u.2 26 w = lN (fD A y w)) (hQ : Q (lN (ms A y)) u) : ∃ n, qX9_missed_l132 Q n 0 1 0 u := by
  have key : ∀ (r i : Nat), i + r = 4 → qX9_missed_l132 Q (r + 1) (lN (fb_sm (fun w => mdI (fD A y) w (xU A y w) 4) i)) (lN (prB (fD A y) i)) (nI i) u := by
    intro r
    induction r with
    | zero =>
      intro i hi
      have e : i = 4 := by omega
      subst e
      have hB := prB_in A y 4 (by omega)
      have hT := prT_in hW y
      show qX9_missed_132 (qX9_missed_l132 Q 0) Q _ _ _ _
      unfold qX9_missed_132
      refine pk_le 4 4 (fun _ => ⟨fun h => ?_, ?_⟩) (fun h => by omega)
      · have := (pk_lEQ (b := 0) (by omega) (by decide)).mp h
        omega
      · rw [mdI_prT, show (1000 : Int64) = lN 1000 from rfl, lN_mul, pk_lDiv (by omega) (by omega) (by omega), Nat.mul_comm]
        exact hQ
    | succ r ih =>
      intro i hi
      have hi4 : i < 4 := by omega
      have nx := ih (i + 1) (by omega)
      show qX9_missed_132 (qX9_missed_l132 Q (r + 1)) Q _ _ _ _
      unfold qX9_missed_132
      rw [nI_clamp (n := i) (by omega), h25 i hi4]
      refine pk_le 4 i (fun h => by omega) (fun _ => ⟨vp_in_nI hi4 (by decide), fun x14 hx14 => ?_⟩)
      subst hx14
      have inner : ∀ (r2 v : Nat), v + r2 = 4 → qX9_missed_l150 (qX9_missed_l132 Q (r + 1)) Q (r2 + 1) (lN (fb_sm (fun w => mdI (fD A y) w (xU A y w) 4) i)) (lN (prB (fD A y) i)) (nI i) (lN (mdI (fD A y) i (xU A y i) v)) (nI v) u := by
        intro r2
        induction r2 with
        | zero =>
          intro v hv
          have e : v = 4 := by omega
          subst e
          show qX9_missed_150 (qX9_missed_l132 Q (r + 1)) (qX9_missed_l150 (qX9_missed_l132 Q (r + 1)) Q 0) Q _ _ _ _ _ _
          unfold qX9_missed_150
          refine pk_le 4 4 (fun _ => fun x16 h16 => ⟨vp_in_nI hi4 (by decide), fun x17 h17 x18 h18 => ?_⟩) (fun h => by omega)
          rw [h18, nI_1, h17, h16, nI_clamp (n := i) (by omega), h26 i hi4, lN_mul, lN_add]
          exact nx
        | succ r2 ih2 =>
          intro v hv
          have hv4 : v < 4 := by omega
          have nx2 := ih2 (v + 1) (by omega)
          show qX9_missed_150 (qX9_missed_l132 Q (r + 1)) (qX9_missed_l150 (qX9_missed_l132 Q (r + 1)) Q (r2 + 1)) Q _ _ _ _ _ _
          unfold qX9_missed_150
          rw [nI_clamp (n := v) (by omega), h26 v hv4, lN_mul]
          refine pk_le 4 v (fun h => by omega) (fun _ => pk_ne v i (fun h => ⟨vp_in_nI hv4 (by decide), ?_⟩) (fun h => ?_))
          · unfold qX9_missed_178
            intro x hx
            rw [hx, nI_1]
            have t : mdI (fD A y) i (xU A y i) (v + 1) = mdI (fD A y) i (xU A y i) v * fD A y v := by
              show (if v = i then _ else _) = _
              rw [if_neg h]
            rw [t] at nx2
            exact nx2
          · unfold qX9_missed_178
            intro x hx
            rw [hx, nI_1]
            have t : mdI (fD A y) i (xU A y i) (v + 1) = mdI (fD A y) i (xU A y i) v := by
              show (if v = i then _ else _) = _
              rw [if_pos h]
            rw [t] at nx2
            exact nx2
      exact ⟨5, inner 4 0 (by omega)⟩
  exact ⟨5, key 4 0 (by omega)⟩
theorem m_missed {A : AS} {y : Nat} {u0 : SM} {Q : Int64 → SM → Prop} (hM0 : RM u0 A) (hW : WF A) (hR0 : YR A y u0) (hy : y < 6) (hQ : ∀ v : SM, v.1 = u0.1 → Q (lN (ms A y)) v) : pX9_missed (nI y) u0 Q := by
  have hb := bn_le hW y
  have hA := hoA_le A y
  have rm : ∀ v : SM, v.1 = u0.1 → RM v A ∧ YR A y v := fun v e => ⟨hM0.eq ⟨fun j _ _ _ => by rw [e], fun k _ _ => by rw [e]⟩, fun t ht => by rw [e]; exact hR0 t ht⟩
  unfold pX9_missed
  refine m_birdsOf hM0 hW hR0 hy WD_all ?_
  rw [bn_all]
  intro x3 hx3
  refine m_hoursOf (o := 0) hM0 hW hy (by omega) WD_all ?_
  rw [hN_0]
  intro x6 hx6
  rw [nI_l (by omega)] at hx3 hx6
  subst hx3 hx6
  refine lpS (fun n i u => qX9_missed_l21 Q n (nI y) (lN (bn A y)) (lN (hoA A y)) i u) (fun i u => u.1 = u0.1 ∧ ∀ w, w < i → u.2 25 w = lN (xU A y w) ∧ u.2 26 w = lN (fD A y w)) 4 (fun n u hI => ?_) (fun n i u hi hI ih => ?_) u0 ⟨rfl, fun w hw => absurd hw (Nat.not_lt_zero _)⟩
  · show qX9_missed_21 (qX9_missed_l21 Q n) Q _ _ _ _ _
    unfold qX9_missed_21
    exact pk_le 4 4 (fun _ => m_missed_end hW (fun w hw => (hI.2 w hw).1) (fun w hw => (hI.2 w hw).2) (hQ u hI.1)) (fun h => by omega)
  · obtain ⟨hM, hR⟩ := rm u hI.1
    have b1 := hoW_le A y i
    have b2 := hsW_le A y i
    have b3 := sn_le hW y i
    have hin : vp_in (nI i) 4 := vp_in_nI hi (by decide)
    -- the two rows
    have fin : ∀ c : Nat, xU A y i = hsW A y i * c → qX9_missed_83 (qX9_missed_l21 Q n) Q (nI y) (lN (bn A y)) (lN (hoA A y)) (nI i) (lN (hoW A y i)) (lN c) (lN (hsW A y i)) (nI i) u := by
      intro c hc
      unfold qX9_missed_83
      rw [lN_mul, ← hc, nI_clamp (n := i) (by omega)]
      refine ⟨hin, fun s15 h15 => ?_⟩
      have last : ∀ f : Nat, fD A y i = f → qX9_missed_116 (qX9_missed_l21 Q n) Q (nI y) (lN (bn A y)) (lN (hoA A y)) (nI i) (lN f) (nI i) s15 := by
        intro f hf
        unfold qX9_missed_116
        rw [nI_clamp (n := i) (by omega)]
        refine ⟨hin, fun s19 h19 x hx => ?_⟩
        rw [hx, nI_1]
        refine ih s19 ⟨by rw [h19, h15]; exact hI.1, fun w hw => ?_⟩
        have e25 : s19.2 25 = st_upL u.2 25 i (lN (xU A y i)) 25 := by
          rw [h19, h15]
          exact suL_k (k := 26) (q := 25) (st_upL u.2 25 i (lN (xU A y i))) i (lN f) (by decide)
        have e26 : s19.2 26 = st_upL s15.2 26 i (lN f) 26 := by rw [h19]
        have e26b : s15.2 26 = u.2 26 := by
          rw [h15]
          exact suL_k (k := 25) (q := 26) u.2 i (lN (xU A y i)) (by decide)
        rw [e25, e26]
        by_cases a : w = i
        · subst a
          rw [suL_s, suL_s, hf]
          exact ⟨rfl, rfl⟩
        · rw [suL_j _ _ _ a, suL_j _ _ _ a, e26b]
          exact hI.2 w (by omega)
      refine pkL (hoW A y i) (fun e => pkL (hoA A y) (fun e2 => last 1 ?_) (fun e2 => last (hoA A y) ?_) rfl (by omega)) (fun e => last (hoW A y i) ?_) rfl (by omega)
      · unfold fD; rw [if_pos e, if_pos e2]
      · unfold fD; rw [if_pos e, if_neg (by omega)]
      · unfold fD; rw [if_neg (by omega)]
    show qX9_missed_21 (qX9_missed_l21 Q n) Q _ _ _ _ _
    unfold qX9_missed_21
    refine pk_le 4 i (fun h => by omega) (fun _ => ?_)
    refine m_hoursOf (o := 0) hM hW hy (by omega) (WD_w hi) ?_
    rw [hN_0w]
    intro x9 h9
    refine m_hoursOf (o := 1) hM hW hy (by omega) (WD_w hi) ?_
    rw [hN_1w hW]
    rw [nI_l (by omega)] at h9
    subst h9
    rw [nI_l (n := hsW A y i) (by omega)]
    refine pkL (hoW A y i) (fun e => pkL (hoA A y) (fun e2 => fin 0 ?_) (fun e2 => fin (bn A y) ?_) rfl (by omega)) (fun e => ?_) rfl (by omega)
    · unfold xU; rw [if_pos e, if_pos e2]
    · unfold xU; rw [if_pos e, if_neg (by omega)]
    · refine m_birdsOf hM hW hR hy (WD_w hi) ?_
      show qX9_missed_83 _ _ _ _ _ _ _ (Int32.toInt64 (nI (sn A y i))) _ _ _
      rw [nI_l (by omega)]
      refine fin (sn A y i) ?_
      unfold xU
      rw [if_neg (by omega)]
theorem m_total {A : AS} {y : Nat} {u0 : SM} {Q : Int64 → SM → Prop} (hM0 : RM u0 A) (hW : WF A) (hy : y < 6) (hQ : ∀ v : SM, MEq u0 v → YR A y v → Q (lN (1000 * bn A y + ms A y)) v) : pX9_total (nI y) u0 Q := by
  have hb := bn_le hW y
  unfold pX9_total
  refine pairsOf_ok hM0 hW hy (fun u hu hR => ?_)
  have hM := hM0.eq hu
  refine m_birdsOf hM hW hR hy WD_all ?_
  rw [bn_all]
  refine m_missed hM hW hR hy (fun v hv => ?_)
  rw [nI_l (by omega), show (1000 : Int64) = lN 1000 from rfl, lN_mul, lN_add]
  refine hQ v (hu.tr ⟨fun j _ _ _ => by rw [hv], fun k _ _ => by rw [hv]⟩) (fun t ht => by rw [hv]; exact hR t ht)
