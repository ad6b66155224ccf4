/-! THE RELATION; what changes and what stays -/
theorem ix1 {x : Int32} {n : Nat} (h0 : ¬ x < 0) (h1 : ¬ nI n ≤ x) (hn : n < 2 ^ 31) : ∃ j, j < n ∧ x = nI j := by
  rcases pk_ix x hn with a | a | a
  · exact absurd a h0
  · exact absurd a h1
  · exact a
theorem ix2 {x : Int32} {n : Nat} (h0 : ¬ x < 0) (h1 : x < nI n) (hn : n < 2 ^ 31) : ∃ j, j < n ∧ x = nI j := ix1 h0 (fun a => (fa_of_lt h1).2.1 a) hn
theorem ix3 {x : Int32} {n : Nat} (h0 : ¬ x < 0) (h1 : x ≤ nI n) (hn : n + 1 < 2 ^ 31) : ∃ j, j < n + 1 ∧ x = nI j := by
  refine ix1 h0 (fun a => ?_) hn
  rw [fa_le, nI_toInt (by omega)] at a
  rw [fa_le, nI_toInt (by omega)] at h1
  omega
theorem ix4 {x : Int32} {n : Nat} (h0 : ¬ x < 0) (h1 : ¬ nI n < x) (hn : n + 1 < 2 ^ 31) : ∃ j, j < n + 1 ∧ x = nI j := ix3 h0 (fa_of_nlt h1) hn
def RelCM (σ : St) (u : SM) : Prop := ∃ A, WF A ∧ RC σ A ∧ RM u A ∧ Cache A σ
theorem Cache.eq {A : AS} {σ v : St} (h : Cache A σ) (e : ∀ k, 19 ≤ k → k ≤ 23 → v k = σ k) : Cache A v := fun d hd hn t ht h2 => by
  rw [e 20 (by decide) (by decide), e 21 (by decide) (by decide), e 22 (by decide) (by decide), e 23 (by decide) (by decide)]
  rw [e 19 (by decide) (by decide)] at hn
  exact h d hd hn t ht h2
theorem MEq.t0 (u : SM) (v : Int32) : MEq u (st_up u.1 0 0 v, u.2) := MEq.up0 u (Or.inl rfl) v
/-- nothing told changes -/
theorem relK {A : AS} {σ v : St} {u w : SM} (hW : WF A) (hC : RC σ A) (hM : RM u A) (hv : CE σ v) (hK : Cache A v) (hu : MEq u w) : RelCM v w := ⟨A, hW, hC.eq hv, hM.eq hu, hK⟩
def ap (A : AS) (k i v : Nat) : AS := fun k2 i2 => if k2 = k ∧ i2 = i then v else A k2 i2
theorem ap_s (A : AS) (k i v : Nat) : ap A k i v k i = v := if_pos ⟨rfl, rfl⟩
theorem ap_k (A : AS) {k k2 : Nat} (i v : Nat) (h : k2 ≠ k) : ap A k i v k2 = A k2 := funext fun _ => if_neg (fun a => h a.1)
theorem ap_j (A : AS) (k : Nat) {i j : Nat} (v : Nat) (h : j ≠ i) : ap A k i v k j = A k j := if_neg (fun a => h a.2)
theorem unF_cong {A B : AS} (h : A 2 = B 2) : ∀ f k j, unF A f k j = unF B f k j := by
  intro f
  induction f with
  | zero => intro k j; rfl
  | succ f ih => intro k j; show (decide (j = k) || (decide (k ≠ 0) && unF A f (A 2 k) j)) = (decide (j = k) || (decide (k ≠ 0) && unF B f (B 2 k) j)); rw [h, ih]
theorem un_cong {A B : AS} (h : A 2 = B 2) : un A = un B := funext fun k => funext fun j => unF_cong h 20 k j
theorem dpF_cong {A B : AS} (h : A 2 = B 2) : ∀ f k, dpF A f k = dpF B f k := by
  intro f
  induction f with
  | zero => intro k; rfl
  | succ f ih => intro k; show (if k = 0 then 0 else dpF A f (A 2 k) + 1) = (if k = 0 then 0 else dpF B f (B 2 k) + 1); rw [h, ih]
theorem dp_cong {A B : AS} (h : A 2 = B 2) : dp A = dp B := funext fun k => dpF_cong h 20 k
/-- two states in which a date's tellings are the same -/
def SD (A B : AS) (d : Nat) : Prop := A 0 1 = B 0 1 ∧ A 2 = B 2 ∧ (∀ p i, ls A d p i = ls B d p i) ∧ (∀ p, cn A d p = cn B d p) ∧ (∀ p i j, met A d p i j = met B d p i j) ∧ ∀ t, t < aSh A → aDt A t = d → A 9 t = B 9 t
theorem SD.sh {A B : AS} {d t : Nat} (h : SD A B d) (ht : t < aSh B) (hd : aDt B t = d) : t < aSh A ∧ aDt A t = d ∧ A 8 t = B 8 t := by
  obtain ⟨i, h1, h2⟩ := ls_on ht hd rfl
  have k1 : i < cn A d (B 8 t) := by rw [h.2.2.2.1]; exact h1
  have k2 := ls_in k1
  rw [h.2.2.1, h2] at k2
  exact k2
theorem SD.hs {A B : AS} {d t : Nat} (h : SD A B d) (ht : t < aSh A) (hd : aDt A t = d) : t < aSh B ∧ aDt B t = d ∧ B 8 t = A 8 t := by
  obtain ⟨i, h1, h2⟩ := ls_on ht hd rfl
  have k1 : i < cn B d (A 8 t) := by rw [← h.2.2.2.1]; exact h1
  have k2 := ls_in k1
  rw [← h.2.2.1, h2] at k2
  exact k2
theorem SD.cm {A B : AS} {d : Nat} (h : SD A B d) (p : Nat) : cA A d p = cA B d p := by
  have e : met A d p = met B d p := funext fun i => funext fun j => h.2.2.2.2.1 p i j
  have e2 := h.2.2.2.1 p
  have e3 := h.2.2.2.1 (p + 1)
  unfold cA
  rw [e, e2, e3]
theorem SD.up {A B : AS} {d t : Nat} (h : SD A B d) (ht : t < aSh B) (hd : aDt B t = d) : UPo A t = UPo B t := by
  obtain ⟨a, b, c⟩ := h.sh ht hd
  by_cases hp : B 8 t + 1 < B 0 1
  · obtain ⟨i, h1, h2⟩ := ls_on ht hd rfl
    have k1 : i < cn A d (B 8 t) := by rw [h.2.2.2.1]; exact h1
    have e1 := UPo_ls h1 hp
    have e2 := UPo_ls k1 (by rw [h.1]; exact hp)
    have e3 : ls A d (B 8 t + 1) = ls B d (B 8 t + 1) := funext fun j => h.2.2.1 _ j
    rw [h2] at e1
    rw [h.2.2.1, h2, h.cm, e3] at e2
    rw [e1, e2]
  · unfold UPo
    rw [if_neg (fun x => hp (by rw [← c, ← h.1]; exact x.2)), if_neg (fun x => hp x.2)]
theorem SD.lo {A B : AS} {d t : Nat} (h : SD A B d) (ht : t < aSh B) (hd : aDt B t = d) : LOo A t = LOo B t := by
  obtain ⟨a, b, c⟩ := h.sh ht hd
  cases eb : LOo B t with
  | some s =>
    have ub := LO_iff.mp eb
    obtain ⟨u1, u2, u3, u4, u5⟩ := UP_in ub
    refine LO_iff.mpr ?_
    rw [h.up u1 (by omega)]
    exact ub
  | none =>
    cases ea : LOo A t with
    | none => rfl
    | some s =>
      have ua := LO_iff.mp ea
      obtain ⟨u1, u2, u3, u4, u5⟩ := UP_in ua
      obtain ⟨v1, v2, v3⟩ := h.hs u1 (by omega)
      rw [h.up v1 v2] at ua
      exact absurd ua (LO_none eb s)
theorem SD.fs {A B : AS} {d : Nat} (hA : WF A) (hB : WF B) (h : SD A B d) : ∀ (n t : Nat), B 8 t ≤ n → t < aSh B → aDt B t = d → fs A t = fs B t := by
  intro n
  induction n with
  | zero =>
    intro t hn ht hd
    have e := h.lo ht hd
    cases eb : LOo B t with
    | none => rw [eb] at e; rw [fs_none e, fs_none eb]
    | some s => have := (UP_in (LO_iff.mp eb)).2.2.2.1; omega
  | succ n ih =>
    intro t hn ht hd
    have e := h.lo ht hd
    cases eb : LOo B t with
    | none => rw [eb] at e; rw [fs_none e, fs_none eb]
    | some s =>
      rw [eb] at e
      obtain ⟨u1, u2, u3, u4, u5⟩ := UP_in (LO_iff.mp eb)
      rw [fs_some hA e, fs_some hB eb]
      exact ih s (by omega) u1 (by omega)
theorem SD.kb {A B : AS} {d : Nat} (hA : WF A) (hB : WF B) (h : SD A B d) : ∀ (n k t : Nat), B 0 1 ≤ B 8 t + n → t < aSh B → aDt B t = d → kb A k t = kb B k t := by
  have ek : ∀ k j, dk A k j = dk B k j := fun k j => by unfold dk; rw [dp_cong h.2.1]
  intro n
  induction n with
  | zero =>
    intro k t hn ht hd
    have e := h.up ht hd
    cases eb : UPo B t with
    | none => rw [eb] at e; rw [kb_none e, kb_none eb]
    | some s => have := (UP_in eb).2.2.2; omega
  | succ n ih =>
    intro k t hn ht hd
    have e := h.up ht hd
    cases eb : UPo B t with
    | none => rw [eb] at e; rw [kb_none e, kb_none eb]
    | some s =>
      rw [eb] at e
      obtain ⟨u1, u2, u3, u4, u5⟩ := UP_in eb
      obtain ⟨v1, v2, v3⟩ := h.sh u2 (by omega)
      rw [kb_some hA e, kb_some hB eb, ek, h.2.2.2.2.2 s v1 v2]
      exact ih _ s (by omega) u2 (by omega)
theorem Cache_cong {A B : AS} {σ v : St} (hA : WF A) (hB : WF B) (hK : Cache A σ) (hr : ∀ k, 20 ≤ k → k ≤ 23 → v k = σ k) (h19 : ∀ d, d < 180 → v 19 d ≠ 0 → σ 19 d ≠ 0) (h : ∀ d, d < 180 → v 19 d ≠ 0 → SD A B d ∨ ∀ t, t < aSh B → aDt B t ≠ d) : Cache B v := by
  intro d hd hn t ht h2
  rcases h d hd hn with s | s
  · obtain ⟨a, b, c⟩ := s.sh ht h2
    have hh := hK d hd (h19 d hd hn) t a b
    rw [hr 20 (by decide) (by decide), hr 21 (by decide) (by decide), hr 22 (by decide) (by decide), hr 23 (by decide) (by decide), ← s.up ht h2, ← s.lo ht h2, ← SD.fs hA hB s (B 8 t) t (Nat.le_refl _) ht h2]
    have ebk : bkd A t = bkd B t := by
      unfold bkd
      rw [s.2.2.2.2.2 t a b]
      exact SD.kb hA hB s (B 0 1) _ t (by omega) ht h2
    rw [← ebk]
    exact hh
  · exact absurd h2 (s t ht)
/-- all but the day, what is known, hours off and winds agree -/
def AE (A B : AS) : Prop := A 0 1 = B 0 1 ∧ A 0 3 = B 0 3 ∧ A 0 9 = B 0 9 ∧ ∀ k, 1 ≤ k → k ≤ 10 → A k = B k
theorem AE.dt {A B : AS} (h : AE A B) (t : Nat) : aDt A t = aDt B t := by
  unfold aDt
  rw [h.2.2.2 5 (by decide) (by decide), h.2.2.2 6 (by decide) (by decide)]
theorem AE.at {A B : AS} (h : AE A B) (d p : Nat) : aAt A d p = aAt B d p := funext fun t => by
  unfold aAt
  rw [h.dt, h.2.2.2 8 (by decide) (by decide)]
theorem mt_cong {A B : AS} {s t : Nat} (h2 : A 2 = B 2) (h1 : A 1 = B 1) (h3 : A 3 = B 3) (h4 : A 4 = B 4) (s7 : A 7 s = B 7 s) (t7 : A 7 t = B 7 t) (s8 : A 8 s = B 8 s) (t8 : A 8 t = B 8 t) (s9 : A 9 s = B 9 s) (t9 : A 9 t = B 9 t) : mt A s t = mt B s t := by
  unfold mt fly mtK
  rw [un_cong h2, h1, h3, h4, s7, t7, s8, t8, s9, t9]
theorem AE.sd {A B : AS} (h : AE A B) (hs : aSh A = aSh B) (d : Nat) : SD A B d := by
  have el : ∀ p i, ls A d p i = ls B d p i := fun p i => by unfold ls; rw [h.at, hs]
  refine ⟨h.1, h.2.2.2 2 (by decide) (by decide), el, fun p => ?_, fun p i j => ?_, fun t _ _ => by rw [h.2.2.2 9 (by decide) (by decide)]⟩
  · unfold cn; rw [h.at, hs]
  · unfold met
    rw [el, el]
    exact mt_cong (h.2.2.2 2 (by decide) (by decide)) (h.2.2.2 1 (by decide) (by decide)) (h.2.2.2 3 (by decide) (by decide)) (h.2.2.2 4 (by decide) (by decide)) (by rw [h.2.2.2 7 (by decide) (by decide)]) (by rw [h.2.2.2 7 (by decide) (by decide)]) (by rw [h.2.2.2 8 (by decide) (by decide)]) (by rw [h.2.2.2 8 (by decide) (by decide)]) (by rw [h.2.2.2 9 (by decide) (by decide)]) (by rw [h.2.2.2 9 (by decide) (by decide)])
theorem AE.leaf {A B : AS} (h : AE A B) (k : Nat) : lf A k = lf B k := by
  unfold lf
  rw [h.2.1, h.2.2.2 2 (by decide) (by decide)]
theorem AE.wf {A B : AS} (h : AE A B) (hW : WF A) (h7 : B 0 7 ≤ 1000) (h7b : A 0 7 ≤ B 0 7) (h8 : B 0 8 ≤ B 0 7 + 1) (h11 : ∀ x, B 11 x ≤ 1) (h12 : ∀ d, B 12 d < 4) : WF B := by
  refine ⟨?_, ?_, ?_, h7, h8, ?_, ?_, ?_, ?_, ?_, h11, h12, ?_⟩
  · rw [← h.1]; exact hW.p
  · rw [← h.2.1]; exact hW.k1
  · rw [← h.2.1]; exact hW.k
  · rw [← h.2.2.1]; exact hW.n
  · rw [← h.2.1, ← h.2.2.2 2 (by decide) (by decide)]; exact hW.par
  · rw [← h.2.1, ← h.1, ← h.2.2.1, ← h.2.2.2 5 (by decide) (by decide), ← h.2.2.2 6 (by decide) (by decide), ← h.2.2.2 7 (by decide) (by decide), ← h.2.2.2 8 (by decide) (by decide), ← h.2.2.2 9 (by decide) (by decide), ← h.2.2.2 10 (by decide) (by decide)]
    intro t ht
    have e := hW.tel t ht
    exact ⟨e.1, e.2.1, e.2.2.1, e.2.2.2.1, e.2.2.2.2.1, by omega⟩
  · rw [← h.2.2.1, ← h.2.2.2 10 (by decide) (by decide)]; exact hW.mono
  · intro d p
    rw [← h.at, ← h.2.2.1]; exact hW.at12 d p
  · rw [← h.2.2.2 1 (by decide) (by decide)]; exact hW.pl
theorem AE.rc {A B : AS} {σ v : St} (h : AE A B) (hC : RC σ A) (h08 : v 0 8 = nI (B 0 7)) (h09 : v 0 9 = aAs B) (h126 : v 12 6 = nI (aSh B)) (h10 : ∀ i, v 10 i = nI (B 12 i)) (h11 : ∀ d, d < 180 → ∀ x, x < 32 → bt (v 11 d) x = (decide (x < 10) && decide (B 11 (10 * d + x) ≠ 0))) (hk : ∀ k, isW k = true → k ≠ 0 → k ≠ 10 → k ≠ 11 → k ≠ 12 → v k = σ k) (h125 : v 12 5 = σ 12 5) : RC v B := by
  refine ⟨h08, h09, ?_, ?_, ?_, h126, ?_, ?_, ?_, ?_, ?_, h10, h11, ?_, ?_, ?_, ?_, ?_⟩
  · rw [hk 2 (by decide) (by decide) (by decide) (by decide) (by decide), ← h.1]; exact hC.posts
  · rw [hk 4 (by decide) (by decide) (by decide) (by decide) (by decide), ← h.2.1]; exact hC.kinds
  · rw [h125, ← h.2.2.1]; exact hC.num
  · rw [hk 3 (by decide) (by decide) (by decide) (by decide) (by decide), ← h.2.2.2 1 (by decide) (by decide)]; exact hC.place
  · rw [hk 5 (by decide) (by decide) (by decide) (by decide) (by decide), ← h.2.2.2 3 (by decide) (by decide)]; exact hC.slow
  · rw [hk 6 (by decide) (by decide) (by decide) (by decide) (by decide), ← h.2.2.2 4 (by decide) (by decide)]; exact hC.fast
  · rw [hk 7 (by decide) (by decide) (by decide) (by decide) (by decide), ← h.2.1, ← un_cong (h.2.2.2 2 (by decide) (by decide))]; exact hC.up
  · intro k hk2
    rw [hk 8 (by decide) (by decide) (by decide) (by decide) (by decide), ← h.leaf]
    exact hC.leaf k (by rw [h.2.1]; exact hk2)
  · intro t ht
    rw [hk 13 (by decide) (by decide) (by decide) (by decide) (by decide), ← h.dt]
    exact hC.date t (by rw [h.2.2.1]; exact ht)
  · rw [hk 14 (by decide) (by decide) (by decide) (by decide) (by decide), ← h.2.2.2 7 (by decide) (by decide)]; exact hC.min
  · rw [hk 15 (by decide) (by decide) (by decide) (by decide) (by decide), ← h.2.2.2 8 (by decide) (by decide)]; exact hC.post
  · rw [hk 16 (by decide) (by decide) (by decide) (by decide) (by decide), ← h.2.2.2 9 (by decide) (by decide)]; exact hC.kind
  · rw [hk 17 (by decide) (by decide) (by decide) (by decide) (by decide), ← h.2.2.2 10 (by decide) (by decide)]; exact hC.since
theorem AE.rm {A B : AS} {u v : SM} (h : AE A B) (hM : RM u A) (h7 : v.1 0 7 = nI (B 0 7)) (h8 : v.1 0 8 = aAs B) (h11 : ∀ i, v.1 11 i = nI (B 11 i)) (h12 : ∀ i, v.1 12 i = nI (B 12 i)) (h0 : ∀ j, j = 1 ∨ j = 3 ∨ j = 9 → v.1 0 j = u.1 0 j) (hk : ∀ k, 1 ≤ k → k ≤ 10 → v.1 k = u.1 k) : RM v B := by
  refine ⟨?_, ?_, h7, h8, ?_, ?_, ?_, ?_⟩
  · rw [h0 1 (by omega), ← h.1]; exact hM.posts
  · rw [h0 3 (by omega), ← h.2.1]; exact hM.kinds
  · rw [h0 9 (by omega), ← h.2.2.1]; exact hM.num
  · rw [hk 2 (by decide) (by decide)]; exact hM.root
  · rw [hk 2 (by decide) (by decide), ← h.2.2.2 2 (by decide) (by decide)]; exact hM.par
  · intro k hk2 i
    by_cases e11 : k = 11
    · subst e11; exact h11 i
    · by_cases e12 : k = 12
      · subst e12; exact h12 i
      · rw [hk k (by omega) (by omega), ← h.2.2.2 k (by omega) (by omega)]
        exact hM.row k hk2 i
/-! later() -/
theorem sim_later {σ : St} {u : SM} (hR : RelCM σ u) : pX8_later σ (fun r v => pX9_later u (fun r2 u2 => r = r2 ∧ RelCM v u2)) := by
  obtain ⟨A, hW, hC, hM, hK⟩ := hR
  have hnow := hW.now
  have has := hW.asOf
  unfold pX8_later pX9_later
  refine pk_lt (A 0 7) 1000 (fun hlt s1 hs1 t1 ht1 => ?_) (fun hge t1 ht1 => ?_) (hx := hC.now)
  · rw [hC.now, nI_1] at hs1
    have f7 : t1.1 0 7 = nI (A 0 7) := by rw [ht1, mk_j _ _ _ (by decide)]; exact hM.now
    refine pk_ne (A 0 7) 1000 (fun _ t2 ht2 => ?_) (fun e => by omega) (hx := f7)
    rw [f7, nI_1] at ht2
    have hAE : AE A (ap A 0 7 (A 0 7 + 1)) := ⟨(ap_j A 0 _ (by decide)).symm, (ap_j A 0 _ (by decide)).symm, (ap_j A 0 _ (by decide)).symm, fun k a b => (ap_k A 7 _ (by omega)).symm⟩
    have e7 : ap A 0 7 (A 0 7 + 1) 0 7 = A 0 7 + 1 := ap_s A 0 7 _
    have e8 : ap A 0 7 (A 0 7 + 1) 0 8 = A 0 8 := ap_j A 0 _ (by decide)
    have e11 : ap A 0 7 (A 0 7 + 1) 11 = A 11 := ap_k A 7 _ (by decide)
    have e12 : ap A 0 7 (A 0 7 + 1) 12 = A 12 := ap_k A 7 _ (by decide)
    have e10 : ap A 0 7 (A 0 7 + 1) 10 = A 10 := ap_k A 7 _ (by decide)
    have e9 : ap A 0 7 (A 0 7 + 1) 0 9 = A 0 9 := ap_j A 0 _ (by decide)
    have eas : aAs (ap A 0 7 (A 0 7 + 1)) = aAs A := by unfold aAs; rw [e8]
    have hsh : aSh A = aSh (ap A 0 7 (A 0 7 + 1)) := by
      unfold aSh
      rw [e9]
      refine fb_ct_cong (fun t ht => decide_eq_decide.mpr ?_)
      have := (hW.tel t ht).2.2.2.2.2
      unfold aKd
      rw [e10, e8, e7]
      split <;> omega
    have hWB := hAE.wf hW (by omega) (by omega) (by omega) (by rw [e11]; exact hW.off) (by rw [e12]; exact hW.wd)
    have k1 : ∀ k, k ≠ 0 → s1 k = σ k := fun k hk => by rw [hs1, su_k _ _ _ hk]
    refine ⟨by rw [hs1, su_s, ht2, mk_s], ap A 0 7 (A 0 7 + 1), hWB, ?_, ?_, ?_⟩
    · refine hAE.rc hC (by rw [hs1, su_s, e7]) (by rw [hs1, su_j _ _ _ (by decide), eas]; exact hC.asOf) (by rw [k1 12 (by decide), ← hsh]; exact hC.shown) (by rw [k1 10 (by decide), e12]; exact hC.wind) (by rw [k1 11 (by decide), e11]; exact hC.shut) (fun k _ a _ _ _ => k1 k a) (by rw [k1 12 (by decide)])
    · refine hAE.rm hM (by rw [ht2, mk_s, e7]) ?_ ?_ ?_ (fun j hj => ?_) (fun k a b => ?_)
      · rw [ht2, mk_j _ _ _ (by decide), ht1, mk_j _ _ _ (by decide), eas]; exact hM.asOf
      · intro i; rw [ht2, mk_k _ _ _ (by decide), ht1, mk_k _ _ _ (by decide), e11]; exact hM.row 11 (by omega) i
      · intro i; rw [ht2, mk_k _ _ _ (by decide), ht1, mk_k _ _ _ (by decide), e12]; exact hM.row 12 (by omega) i
      · rw [ht2, mk_j _ _ _ (by omega), ht1, mk_j _ _ _ (by omega)]
      · rw [ht2, mk_k _ _ _ (by omega), ht1, mk_k _ _ _ (by omega)]
    · exact Cache_cong hW hWB hK (fun k a b => k1 k (by omega)) (fun d _ hn => by rw [← k1 19 (by decide)]; exact hn) (fun d _ _ => Or.inl (hAE.sd hsh d))
  · have f7 : t1.1 0 7 = nI (A 0 7) := by rw [ht1, mk_j _ _ _ (by decide)]; exact hM.now
    refine pk_ne (A 0 7) 1000 (fun e => by omega) (fun _ => ?_) (hx := f7)
    refine ⟨rfl, relK hW hC hM (CE.rf σ) hK ?_⟩
    rw [ht1]
    exact MEq.t0 u 0
