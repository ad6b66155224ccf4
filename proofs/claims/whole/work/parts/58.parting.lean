/-! PARTING: what a doubtful kind gives each leaf under it -/
def bs (R : Nat → Int32) : Nat → Nat
  | 0 => 0
  | n + 1 => if R n ≤ R (bs R n) then bs R n else n
def Rg (K : Nat) (R : Nat → Int32) : Nat → Nat → Int32
  | 0 => R
  | g + 1 => upd (Rg K R g) (bs (Rg K R g) K) (-1)
def exN (K : Nat) (R : Nat → Int32) : Nat → Nat → Nat
  | 0, _ => 0
  | g + 1, q => exN K R g q + if q = bs (Rg K R g) K then 1 else 0
theorem bs_lt (R : Nat → Int32) : ∀ n, 0 < n → bs R n < n := by
  intro n
  induction n with
  | zero => intro h; omega
  | succ n ih =>
    intro _
    show (if R n ≤ R (bs R n) then bs R n else n) < n + 1
    split
    · by_cases e : n = 0
      · subst e; exact Nat.lt_succ_self 0
      · have := ih (by omega); omega
    · omega
theorem bs_cong {R R2 : Nat → Int32} : ∀ n, (∀ q, q < n → R q = R2 q) → bs R n = bs R2 n := by
  intro n
  induction n with
  | zero => intro _; rfl
  | succ n ih =>
    intro h
    have e := ih (fun q hq => h q (by omega))
    show (if R n ≤ R (bs R n) then bs R n else n) = (if R2 n ≤ R2 (bs R2 n) then bs R2 n else n)
    rw [e, h n (by omega)]
    have : R (bs R2 n) = R2 (bs R2 n) := by
      by_cases e0 : n = 0
      · subst e0; exact h 0 (by omega)
      · exact h _ (by have := bs_lt R2 n (by omega); omega)
    rw [this]
theorem bs_max (R : Nat → Int32) : ∀ n j, j < n → R j ≤ R (bs R n) := by
  intro n
  induction n with
  | zero => intro j hj; omega
  | succ n ih =>
    intro j hj
    show R j ≤ R (if R n ≤ R (bs R n) then bs R n else n)
    by_cases c : R n ≤ R (bs R n)
    · rw [if_pos c]
      by_cases e : j = n
      · subst e; exact c
      · exact ih j (by omega)
    · rw [if_neg c]
      by_cases e : j = n
      · subst e
        rw [fa_le]
        omega
      · have a := ih j (by omega)
        rw [fa_le] at a c ⊢
        omega
/-- leaves under a kind -/
def Lu (A : AS) (p q : Nat) : Bool := lf A q && un A q p
noncomputable def alN (A : AS) (y p : Nat) : Nat := fb_sm (fun q => if Lu A p q = true then ow A y q else 0) (A 0 3)
def lvN (A : AS) (p : Nat) : Nat := fb_ct (Lu A p) (A 0 3)
noncomputable def byN (A : AS) (y p : Nat) : Nat := if alN A y p = 0 then lvN A p else alN A y p
noncomputable def wg (A : AS) (y p q : Nat) : Nat := ow A y p * (if alN A y p = 0 then 1 else ow A y q)
noncomputable def qt (A : AS) (y p q : Nat) : Nat := if Lu A p q = true then wg A y p q / byN A y p else 0
noncomputable def rr (A : AS) (y p q : Nat) : Int32 := if Lu A p q = true then nI (wg A y p q % byN A y p) else -1
noncomputable def lft (A : AS) (y p : Nat) : Nat := ow A y p - fb_sm (qt A y p) (A 0 3)
noncomputable def ctb (A : AS) (y p q : Nat) : Nat := qt A y p q + exN (A 0 3) (rr A y p) (lft A y p) q
theorem ow_le {A : AS} (hW : WF A) (y k : Nat) : ow A y k ≤ 300 := ct_300 hW _ (Nat.le_refl _)
theorem un_par {A : AS} (hW : WF A) : ∀ q, q < A 0 3 → ∀ c, c ≠ 0 → un A q c = true → un A q (A 2 c) = true := by
  intro q
  induction q using Nat.strongRecOn with
  | _ q ih =>
    intro hq c hc h
    by_cases e : q = 0
    · subst e
      rw [un_0] at h
      exact absurd (of_decide_eq_true h) hc
    · have hp := hW.par q (by omega) hq
      rw [un_step hW hq e] at h ⊢
      by_cases ec : c = q
      · subst ec
        rw [un_self, Bool.or_true]
      · rw [decide_eq_false ec, Bool.false_or] at h
        rw [ih (A 2 q) hp (by omega) c hc h, Bool.or_true]
/-- there is a leaf under every kind -/
theorem leaf_ex {A : AS} (hW : WF A) : ∀ (n p : Nat), A 0 3 ≤ p + n → p < A 0 3 → ∃ q, q < A 0 3 ∧ Lu A p q = true := by
  intro n
  induction n with
  | zero => intro p a b; omega
  | succ n ih =>
    intro p hn hp
    cases e : lf A p with
    | true => exact ⟨p, hp, by unfold Lu; rw [e, un_self]; rfl⟩
    | false =>
      have h := of_decide_eq_false e
      have h2 : 0 < fb_ct (fun q => decide (0 < q ∧ A 2 q = p)) (A 0 3) := by omega
      obtain ⟨c, c1, c2⟩ := fb_ct_pos.mp h2
      have c3 := of_decide_eq_true c2
      have c4 := hW.par c c3.1 c1
      obtain ⟨q, q1, q2⟩ := ih c (by omega) c1
      refine ⟨q, q1, ?_⟩
      unfold Lu at q2 ⊢
      rw [Bool.and_eq_true] at q2 ⊢
      have h3 := un_par hW q q1 c (by omega) q2.2
      rw [c3.2] at h3
      exact ⟨q2.1, h3⟩
theorem lv_pos {A : AS} (hW : WF A) {p : Nat} (hp : p < A 0 3) : 0 < lvN A p := by
  obtain ⟨q, q1, q2⟩ := leaf_ex hW (A 0 3) p (by omega) hp
  exact fb_ct_pos.mpr ⟨q, q1, q2⟩
theorem by_pos {A : AS} (hW : WF A) (y : Nat) {p : Nat} (hp : p < A 0 3) : 0 < byN A y p := by
  have := lv_pos hW hp
  unfold byN
  split <;> omega
theorem al_le {A : AS} (hW : WF A) (y p : Nat) : alN A y p ≤ 6000 := by
  have h := fb_sm_bound (f := fun q => if Lu A p q = true then ow A y q else 0) (c := 300) (n := A 0 3) (fun q _ => by
    have := ow_le hW y q
    show (if Lu A p q = true then ow A y q else 0) ≤ 300
    split <;> omega)
  have := hW.k
  have h2 : alN A y p ≤ A 0 3 * 300 := h
  omega
theorem by_le {A : AS} (hW : WF A) (y p : Nat) : byN A y p ≤ 6000 := by
  have h := al_le hW y p
  have h2 : lvN A p ≤ A 0 3 := fb_ct_le _ _
  have := hW.k
  unfold byN
  split <;> omega
theorem wg_le {A : AS} (hW : WF A) (y p q : Nat) : wg A y p q ≤ 90000 := by
  have a := ow_le hW y p
  have b := ow_le hW y q
  have : ow A y p * (if alN A y p = 0 then 1 else ow A y q) ≤ 300 * 300 := Nat.mul_le_mul a (by split <;> omega)
  exact this
theorem sm_mul (c : Nat) (f : Nat → Nat) : ∀ n, fb_sm (fun q => c * f q) n = c * fb_sm f n := by
  intro n
  induction n with
  | zero => rfl
  | succ n ih => rw [fb_sm_succ, fb_sm_succ, ih, Nat.mul_add]
theorem sm_ct (P : Nat → Bool) : ∀ n, fb_sm (fun q => if P q = true then 1 else 0) n = fb_ct P n := by
  intro n
  induction n with
  | zero => rfl
  | succ n ih => rw [fb_sm_succ, fb_ct_succ, ih]
/-- what is shared out and what remains -/
theorem part_sum {A : AS} (y p : Nat) : ow A y p * byN A y p = byN A y p * fb_sm (qt A y p) (A 0 3) + fb_sm (fun q => if Lu A p q = true then wg A y p q % byN A y p else 0) (A 0 3) := by
  have e1 : fb_sm (fun q => if Lu A p q = true then wg A y p q else 0) (A 0 3) = byN A y p * fb_sm (qt A y p) (A 0 3) + fb_sm (fun q => if Lu A p q = true then wg A y p q % byN A y p else 0) (A 0 3) := by
    rw [← sm_mul, ← fb_sm_add]
    refine fb_sm_cong (fun q _ => ?_)
    unfold qt
    by_cases c : Lu A p q = true
    · rw [if_pos c, if_pos c, if_pos c]
      exact (Nat.div_add_mod _ _).symm
    · rw [if_neg c, if_neg c, if_neg c]
      rfl
  rw [← e1]
  have e2 : fb_sm (fun q => if Lu A p q = true then wg A y p q else 0) (A 0 3) = fb_sm (fun q => ow A y p * (if Lu A p q = true then (if alN A y p = 0 then 1 else ow A y q) else 0)) (A 0 3) := fb_sm_cong (fun q _ => by
    unfold wg
    by_cases c : Lu A p q = true
    · rw [if_pos c, if_pos c]
    · rw [if_neg c, if_neg c, Nat.mul_zero])
  rw [e2, sm_mul]
  congr 1
  unfold byN
  by_cases z : alN A y p = 0
  · rw [if_pos z]
    have e3 : fb_sm (fun q => if Lu A p q = true then (if alN A y p = 0 then 1 else ow A y q) else 0) (A 0 3) = fb_sm (fun q => if Lu A p q = true then 1 else 0) (A 0 3) := fb_sm_cong (fun q _ => by rw [if_pos z])
    rw [e3, sm_ct]
    rfl
  · rw [if_neg z]
    have e3 : fb_sm (fun q => if Lu A p q = true then (if alN A y p = 0 then 1 else ow A y q) else 0) (A 0 3) = fb_sm (fun q => if Lu A p q = true then ow A y q else 0) (A 0 3) := fb_sm_cong (fun q _ => by rw [if_neg z])
    rw [e3]
    rfl
theorem qt_le {A : AS} (hW : WF A) (y : Nat) {p : Nat} (hp : p < A 0 3) : fb_sm (qt A y p) (A 0 3) ≤ ow A y p := by
  have h := part_sum (A := A) y p
  have hb := by_pos hW y hp
  refine Nat.le_of_mul_le_mul_left (c := byN A y p) ?_ hb
  rw [Nat.mul_comm (byN A y p) (ow A y p)]
  omega
theorem lft_lt {A : AS} (hW : WF A) (y : Nat) {p : Nat} (hp : p < A 0 3) : lft A y p < lvN A p := by
  have h := part_sum (A := A) y p
  have hb := by_pos hW y hp
  have hl := lv_pos hW hp
  have hq := qt_le hW y hp
  have hr : fb_sm (fun q => if Lu A p q = true then wg A y p q % byN A y p else 0) (A 0 3) ≤ (byN A y p - 1) * lvN A p := by
    have e : (byN A y p - 1) * lvN A p = fb_sm (fun q => (byN A y p - 1) * (if Lu A p q = true then 1 else 0)) (A 0 3) := by
      rw [sm_mul, sm_ct]
      rfl
    rw [e]
    refine fb_sm_le (fun q _ => ?_)
    by_cases c : Lu A p q = true
    · rw [if_pos c, if_pos c, Nat.mul_one]
      have := Nat.mod_lt (wg A y p q) hb
      omega
    · rw [if_neg c, if_neg c]
      exact Nat.zero_le _
  have e2 : lft A y p * byN A y p = fb_sm (fun q => if Lu A p q = true then wg A y p q % byN A y p else 0) (A 0 3) := by
    unfold lft
    rw [Nat.sub_mul, Nat.mul_comm (fb_sm (qt A y p) (A 0 3))]
    omega
  have e3 : (byN A y p - 1) * lvN A p + lvN A p = byN A y p * lvN A p := by
    rw [← Nat.succ_mul, Nat.succ_eq_add_one, Nat.sub_add_cancel hb]
  have e4 : lft A y p * byN A y p < lvN A p * byN A y p := by
    rw [Nat.mul_comm (lvN A p)]
    omega
  exact Nat.lt_of_mul_lt_mul_right e4
/-- while something is left there is one to take it -/
theorem Rg_ct {K : Nat} {R : Nat → Int32} (hK : 0 < K) : ∀ g, fb_ct (fun q => decide (0 ≤ R q)) K ≤ fb_ct (fun q => decide (0 ≤ Rg K R g q)) K + g := by
  intro g
  induction g with
  | zero => exact Nat.le_refl _
  | succ g ih =>
    have hb := bs_lt (Rg K R g) K hK
    have e : fb_ct (fun q => decide (0 ≤ Rg K R (g + 1) q)) K = fb_ct (fun q => if q = bs (Rg K R g) K then false else decide (0 ≤ Rg K R g q)) K := fb_ct_cong (fun q _ => by
      show decide (0 ≤ upd (Rg K R g) (bs (Rg K R g) K) (-1) q) = _
      by_cases c : q = bs (Rg K R g) K
      · rw [if_pos c, c, pk_us]; decide
      · rw [if_neg c, pk_un c])
    have u := fb_ct_upd (fun q => decide (0 ≤ Rg K R g q)) false hb
    rw [e]
    have h0 : (if (false = true) then 1 else 0) = 0 := rfl
    rw [h0] at u
    have h1 : (if decide (0 ≤ Rg K R g (bs (Rg K R g) K)) = true then 1 else 0) ≤ 1 := by split <;> omega
    omega
theorem Rg_pos {A : AS} (hW : WF A) (y : Nat) {p g : Nat} (hp : p < A 0 3) (hg : g < lft A y p) : 0 ≤ Rg (A 0 3) (rr A y p) g (bs (Rg (A 0 3) (rr A y p) g) (A 0 3)) := by
  have hk1 := hW.k1
  have hl := lft_lt hW y hp
  have hb := by_pos hW y hp
  have hb2 := by_le hW y p
  have e : fb_ct (fun q => decide (0 ≤ rr A y p q)) (A 0 3) = lvN A p := fb_ct_cong (fun q _ => by
    unfold rr
    cases c : Lu A p q with
    | true =>
      rw [if_pos rfl]
      have := Nat.mod_lt (wg A y p q) hb
      exact decide_eq_true (nI_pos' (by omega))
    | false =>
      rw [if_neg (fun h => by cases h)]
      decide)
  have h := Rg_ct (R := rr A y p) (by omega : 0 < A 0 3) g
  rw [e] at h
  obtain ⟨q, q1, q2⟩ := fb_ct_pos.mp (show 0 < fb_ct (fun q => decide (0 ≤ Rg (A 0 3) (rr A y p) g q)) (A 0 3) by omega)
  have q3 := of_decide_eq_true q2
  have q4 := bs_max (Rg (A 0 3) (rr A y p) g) (A 0 3) q q1
  rw [fa_le] at q3 q4 ⊢
  omega
theorem Rg_or (K : Nat) (R : Nat → Int32) : ∀ g q, Rg K R g q = R q ∨ Rg K R g q = -1 := by
  intro g
  induction g with
  | zero => intro q; exact Or.inl rfl
  | succ g ih =>
    intro q
    show upd (Rg K R g) (bs (Rg K R g) K) (-1) q = R q ∨ upd (Rg K R g) (bs (Rg K R g) K) (-1) q = -1
    by_cases c : q = bs (Rg K R g) K
    · right; rw [c, pk_us]
    · rw [pk_un c]; exact ih q
/-- only leaves under it take -/
theorem ex_no {A : AS} (hW : WF A) (y : Nat) {p q : Nat} (hp : p < A 0 3) (hq : Lu A p q = false) : ∀ g, g ≤ lft A y p → exN (A 0 3) (rr A y p) g q = 0 := by
  intro g
  induction g with
  | zero => intro _; rfl
  | succ g ih =>
    intro hg
    show exN (A 0 3) (rr A y p) g q + (if q = bs (Rg (A 0 3) (rr A y p) g) (A 0 3) then 1 else 0) = 0
    rw [ih (by omega), if_neg]
    intro e
    have h := Rg_pos hW y hp (show g < lft A y p by omega)
    rw [← e] at h
    have hr : rr A y p q = -1 := by unfold rr; rw [if_neg (fun c => by rw [hq] at c; cases c)]
    have h2 : Rg (A 0 3) (rr A y p) g q = -1 := by
      rcases Rg_or (A 0 3) (rr A y p) g q with c | c
      · rw [c, hr]
      · exact c
    rw [h2] at h
    exact absurd h (by decide)
theorem ctb_no {A : AS} (hW : WF A) (y : Nat) {p q : Nat} (hp : p < A 0 3) (hq : Lu A p q = false) : ctb A y p q = 0 := by
  unfold ctb qt
  rw [if_neg (fun c => by rw [hq] at c; cases c), ex_no hW y hp hq _ (Nat.le_refl _)]
theorem ctb_0 {A : AS} {y p : Nat} (h : ow A y p = 0) (q : Nat) : ctb A y p q = 0 := by
  have e1 : qt A y p q = 0 := by
    unfold qt wg
    rw [h, Nat.zero_mul, Nat.zero_div]
    split <;> rfl
  have e2 : lft A y p = 0 := by unfold lft; rw [h, Nat.zero_sub]
  unfold ctb
  rw [e1, e2]
  rfl
/-- all numbers, leaf by leaf -/
noncomputable def nuN (A : AS) (y q : Nat) : Nat := (if lf A q = true then ow A y q else 0) + fb_sm (fun p => if lf A p = true then 0 else ctb A y p q) (A 0 3)
theorem sm_one (f : Nat → Nat) (q : Nat) : ∀ n, fb_sm (fun p => if p = q then f p else 0) n = if q < n then f q else 0 := by
  intro n
  induction n with
  | zero => rfl
  | succ n ih =>
    rw [fb_sm_succ, ih]
    by_cases a : n = q
    · subst a
      rw [if_neg (Nat.lt_irrefl n), if_pos rfl, if_pos (Nat.lt_succ_self n), Nat.zero_add]
    · rw [if_neg a, Nat.add_zero]
      exact if_iff (by omega) _ _
theorem nu_eq {A : AS} {y q : Nat} (hq : q < A 0 3) : fb_sm (fun p => if lf A p = true then (if p = q then ow A y p else 0) else ctb A y p q) (A 0 3) = nuN A y q := by
  have e : fb_sm (fun p => if lf A p = true then (if p = q then ow A y p else 0) else ctb A y p q) (A 0 3) = fb_sm (fun p => (if p = q then (if lf A p = true then ow A y p else 0) else 0) + (if lf A p = true then 0 else ctb A y p q)) (A 0 3) := fb_sm_cong (fun p _ => by
    by_cases a : lf A p = true
    · rw [if_pos a, if_pos a, if_pos a, Nat.add_zero]
    · rw [if_neg a, if_neg a, if_neg a]
      split <;> omega)
  rw [e, fb_sm_add, sm_one, if_pos hq]
  rfl
theorem nu_no {A : AS} (hW : WF A) {y q : Nat} (h : lf A q = false) : nuN A y q = 0 := by
  unfold nuN
  rw [if_neg (fun c => by rw [h] at c; cases c), Nat.zero_add]
  have e : fb_sm (fun p => if lf A p = true then 0 else ctb A y p q) (A 0 3) = fb_sm (fun _ => 0) (A 0 3) := fb_sm_cong (fun p hp => by
    rw [ctb_no hW y hp (by unfold Lu; rw [h]; rfl)]
    split <;> rfl)
  rw [e, fb_sm_const, Nat.mul_zero]
