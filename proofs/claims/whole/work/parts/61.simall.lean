/-! all calls; the first states -/
theorem sim_all : Sim RelCM := fun σ u hR => ⟨fun x1 => sim_post hR x1, fun x1 x2 x3 => sim_kind hR x1 x2 x3, sim_later hR, fun x1 x2 x3 x4 x5 => sim_tell hR x1 x2 x3 x4 x5, fun x1 x2 x3 x4 h4 => sim_off hR x1 x2 x3 x4 h4, fun x1 x2 x3 => sim_wind hR x1 x2 x3, fun x1 => sim_known hR x1, fun x1 => sim_partner hR x1, fun x1 => sim_bird hR x1, fun x1 x2 x3 Q E hQ hE => sim_birds hR x1 x2 x3 Q E hQ hE, fun x1 x2 => sim_year hR x1 x2, fun x1 x2 x3 => sim_passage hR x1 x2 x3, fun x1 x2 => sim_change hR x1 x2, fun x1 x2 Q E hQ hE => sim_look hR x1 x2 Q E hQ hE, fun x1 => sim_count hR x1⟩
def A0 : AS := ap (ap (ap (fun _ _ => 0) 0 3 1) 3 0 1) 4 0 400
theorem A0_0 {j : Nat} (h : j ≠ 3) : A0 0 j = 0 := by
  unfold A0
  rw [ap_k _ _ _ (by decide), ap_k _ _ _ (by decide), ap_j _ _ _ h]
theorem A0_03 : A0 0 3 = 1 := by
  unfold A0
  rw [ap_k _ _ _ (by decide), ap_k _ _ _ (by decide), ap_s]
theorem A0_k {k : Nat} (h0 : k ≠ 0) (h3 : k ≠ 3) (h4 : k ≠ 4) (i : Nat) : A0 k i = 0 := by
  unfold A0
  rw [ap_k _ _ _ h4, ap_k _ _ _ h3, ap_k _ _ _ h0]
theorem A0_3 (i : Nat) : A0 3 i = if i = 0 then 1 else 0 := by
  unfold A0
  rw [ap_k _ _ _ (by decide)]
  by_cases e : i = 0
  · subst e; rw [ap_s, if_pos rfl]
  · rw [ap_j _ _ _ e, ap_k _ _ _ (by decide), if_neg e]
theorem A0_4 (i : Nat) : A0 4 i = if i = 0 then 400 else 0 := by
  unfold A0
  by_cases e : i = 0
  · subst e; rw [ap_s, if_pos rfl]
  · rw [ap_j _ _ _ e, ap_k _ _ _ (by decide), ap_k _ _ _ (by decide), if_neg e]
theorem up0 (x : Int32) (i : Nat) : upd (fun _ => 0) (Int32.toNatClampNeg 0) x i = if i = 0 then x else 0 := by
  have e : Int32.toNatClampNeg 0 = 0 := by decide
  rw [e]
  by_cases h : i = 0
  · subst h; rw [pk_us, if_pos rfl]
  · rw [pk_un h, if_neg h]
theorem if_nI (a b i : Nat) : (if i = 0 then nI a else nI b) = nI (if i = 0 then a else b) := by
  by_cases h : i = 0
  · rw [if_pos h, if_pos h]
  · rw [if_neg h, if_neg h]
theorem rel_init : RelCM s0C s0M := by
  have e9 : A0 0 9 = 0 := A0_0 (by decide)
  have eas : aAs A0 = -1 := by unfold aAs; rw [A0_0 (by decide), if_pos rfl]
  refine ⟨A0, ⟨?_, ?_, ?_, ?_, ?_, ?_, fun k h1 h2 => ?_, fun t ht => ?_, fun s t _ ht => ?_, fun d p => ?_, fun x => ?_, fun d => ?_, fun p => ?_⟩, ?_, ?_, Cache_0 e9⟩
  · rw [A0_0 (by decide)]; decide
  · rw [A0_03]; decide
  · rw [A0_03]; decide
  · rw [A0_0 (by decide)]; decide
  · rw [A0_0 (j := 8) (by decide)]; exact Nat.zero_le _
  · rw [e9]; decide
  · rw [A0_03] at h2; omega
  · rw [e9] at ht; omega
  · rw [e9] at ht; omega
  · rw [ct_z _ e9]; decide
  · rw [A0_k (by decide) (by decide) (by decide)]; decide
  · rw [A0_k (by decide) (by decide) (by decide)]; decide
  · rw [A0_k (by decide) (by decide) (by decide)]; decide
  · refine ⟨?_, ?_, ?_, ?_, ?_, ?_, fun i => ?_, fun i => ?_, fun i => ?_, fun k hk j hj => ?_, fun k hk => ?_, fun i => ?_, fun d hd x hx => ?_, fun t ht => ?_, fun i => ?_, fun i => ?_, fun i => ?_, fun i => ?_⟩
    · rw [A0_0 (by decide)]; rfl
    · rw [eas]; rfl
    · rw [A0_0 (by decide)]; rfl
    · rw [A0_03]; rfl
    · rw [e9]; rfl
    · rw [sh_0 e9]; rfl
    · rw [A0_k (by decide) (by decide) (by decide)]; rfl
    · rw [A0_3, ← if_nI]; exact up0 1 i
    · rw [A0_4, ← if_nI]; exact up0 400 i
    · rw [A0_03] at hk
      have e : k = 0 := by omega
      subst e
      rw [un_0]
      exact bt_one j hj
    · rw [A0_03] at hk
      have e : k = 0 := by omega
      subst e
      have el : lf A0 0 = true := by
        unfold lf
        rw [A0_03]
        rfl
      rw [el]
      show upd (fun _ => 0) (Int32.toNatClampNeg 0) (vp_nar .boolean 1) 0 = b2i true
      rw [nar_1, up0]
      rfl
    · rw [A0_k (by decide) (by decide) (by decide)]; rfl
    · rw [A0_k (by decide) (by decide) (by decide)]
      show bt 0 x = _
      rw [b_0, decide_eq_false (show ¬ (0 : Nat) ≠ 0 from fun h => h rfl), Bool.and_false]
    · rw [e9] at ht; omega
    · rw [A0_k (by decide) (by decide) (by decide)]; rfl
    · rw [A0_k (by decide) (by decide) (by decide)]; rfl
    · rw [A0_k (by decide) (by decide) (by decide)]; rfl
    · rw [A0_k (by decide) (by decide) (by decide)]; rfl
  · refine ⟨?_, ?_, ?_, ?_, ?_, ?_, fun k hk => ?_, fun k hk i => ?_⟩
    · rw [A0_0 (by decide)]; rfl
    · rw [A0_03]; rfl
    · rw [A0_0 (by decide)]; rfl
    · rw [eas]; rfl
    · rw [e9]; rfl
    · exact up0 (-1) 0
    · rw [A0_k (by decide) (by decide) (by decide)]
      show upd (fun _ => 0) (Int32.toNatClampNeg 0) (-1) k = nI 0
      rw [up0, if_neg hk]
      rfl
    · by_cases e3 : k = 3
      · subst e3
        rw [A0_3, ← if_nI]; exact up0 1 i
      · by_cases e4 : k = 4
        · subst e4
          rw [A0_4, ← if_nI]; exact up0 400 i
        · rw [A0_k (by omega) e3 e4]
          rcases (show k = 1 ∨ k = 5 ∨ k = 6 ∨ k = 7 ∨ k = 8 ∨ k = 9 ∨ k = 10 ∨ k = 11 ∨ k = 12 by omega) with e | e | e | e | e | e | e | e | e <;> (subst e; rfl)
