/-! THE LAW -/
theorem lw_end {Ls i : Nat} (hL : Ls ≤ 2049) (hi : i < 5000) : ((Int32.ofNat Ls) - 4 < nI i) ↔ Ls < i + 4 := by
  by_cases h : 4 ≤ Ls
  · rw [show (Int32.ofNat Ls) - 4 = nI (Ls - 4) from sb_136 (b := 4) h, pz_lt (by omega) (by omega)]
    omega
  · refine ⟨fun _ => by omega, fun _ => Int32.lt_of_lt_of_le (?_ : (Int32.ofNat Ls) - 4 < 0) (nI_pos' (by omega))⟩
    rcases (show Ls = 0 ∨ Ls = 1 ∨ Ls = 2 ∨ Ls = 3 by omega) with e | e | e | e <;> subst e <;> decide
theorem zl_of (J : Jg) : ∀ (Ls : Nat) (xs : Nat → Int32), Ls ≤ 2049 → zl_goal Ls xs := by
  intro Ls xs hL
  have main : ∀ n i m, 1 ≤ i → i < 4000 → Ls < i + 4 * n + 4 → Inv m → j_Law_law_L28 Ls xs (fun r _ => r = 1) (n + 1) (nI i) m := by
    intro n
    induction n with
    | zero =>
      intro i m h1 h2 h3 I
      rw [j_Law_law_L28, propext (lw_end hL (by omega))]
      exact ⟨fun _ => rfl, fun z => absurd (by omega) z⟩
    | succ n ih =>
      intro i m h1 h2 h3 I
      by_cases h : Ls < i + 4
      · rw [j_Law_law_L28, propext (lw_end hL (by omega))]
        exact ⟨fun _ => rfl, fun z => absurd h z⟩
      · have nx : ∀ m, Inv m → j_Law_law_L651 Ls xs (j_Law_law_L28 Ls xs (fun r _ => r = 1) (n + 1)) (fun r _ => r = 1) (nI i) m := by
          intro m I y hy
          rw [hy, show nI i + 4 = nI (i + 4) from nI_add i 4]
          exact ih (i + 4) m (by omega) (by omega) (by omega) I
        have v0 : vp_in (nI i) Ls := pz_in (by omega) (by omega)
        have v1 : vp_in (nI i + 1) Ls := by rw [nI_1]; exact pz_in (by omega) (by omega)
        have v2 : vp_in (nI i + 2) Ls := by rw [nI_2]; exact pz_in (by omega) (by omega)
        have v3 : vp_in (nI i + 3) Ls := by rw [nI_3]; exact pz_in (by omega) (by omega)
        have eq1 : ∀ (r : Int32) m', Inv m' → ((r = r → (j_Law_law_L651 Ls xs (j_Law_law_L28 Ls xs (fun r _ => r = 1) (n + 1)) (fun r _ => r = 1) (nI i) m')) ∧ (¬ r = r → ((fun (r : Int32) (_ : zm) => r = 1) 0 m'))) := fun r m' I => ⟨fun _ => nx m' I, fun z => absurd rfl z⟩
        have eq2 : ∀ (r : Int64) m', Inv m' → ((lg_cmp r r = 0 → (j_Law_law_L651 Ls xs (j_Law_law_L28 Ls xs (fun r _ => r = 1) (n + 1)) (fun r _ => r = 1) (nI i) m')) ∧ (¬ lg_cmp r r = 0 → ((fun (r : Int32) (_ : zm) => r = 1) 0 m'))) := fun r m' I => ⟨fun _ => nx m' I, fun z => absurd (by rw [pz_cmp0]) z⟩
        rw [j_Law_law_L28, propext (lw_end hL (by omega))]
        refine ⟨fun z => absurd z h, fun _ => ⟨v0, fun _ => nx m I, fun _ => ?_, fun _ => ?_, fun _ => ?_, fun _ => ?_, fun _ => ?_, fun _ => ?_, fun _ => ?_, fun _ => ?_, fun _ => ?_, fun _ => ?_, fun _ => ?_, fun _ => ?_, fun _ => ?_, fun _ => ?_, fun _ => ?_, fun _ => ?_, fun _ => ?_, fun _ => ?_, fun _ => ?_, fun _ => ?_, fun _ => ?_⟩⟩
        · exact ⟨v1, v2, q_arrange I (F := fun P => vp_in (nI i + 1) Ls ∧ vp_in (nI i + 2) Ls ∧ P) (fun P p => ⟨v1, v2, p⟩) eq1⟩
        · exact q_deal I eq1
        · refine ⟨v1, v2, fun h0 => ?_, fun h0 => ?_⟩
          · exact q_discard J (b := false) I (F := fun r m P => vp_in (nI i + 1) Ls ∧ vp_in (nI i + 2) Ls ∧ ((xs (Int32.toNatClampNeg (nI i + 2)) = 0 → P) ∧ (¬ xs (Int32.toNatClampNeg (nI i + 2)) = 0 → j_Law_law_L227 Ls xs (j_Law_law_L28 Ls xs (fun r _ => r = 1) (n + 1)) (fun r _ => r = 1) (nI i) 1 (xs (Int32.toNatClampNeg (nI i + 1))) r m))) (fun r m P p => ⟨v1, v2, fun _ => p, fun z => absurd h0 z⟩) eq1
          · exact q_discard J (b := true) I (F := fun r m P => vp_in (nI i + 1) Ls ∧ vp_in (nI i + 2) Ls ∧ ((xs (Int32.toNatClampNeg (nI i + 2)) = 0 → j_Law_law_L227 Ls xs (j_Law_law_L28 Ls xs (fun r _ => r = 1) (n + 1)) (fun r _ => r = 1) (nI i) 0 (xs (Int32.toNatClampNeg (nI i + 1))) r m) ∧ (¬ xs (Int32.toNatClampNeg (nI i + 2)) = 0 → P))) (fun r m P p => ⟨v1, v2, fun z => absurd z h0, fun _ => p⟩) eq1
        · exact ⟨v1, q_quad J I (F := fun P => vp_in (nI i + 1) Ls ∧ P) (fun P p => ⟨v1, p⟩) eq1⟩
        · exact q_win J I eq1
        · exact ⟨v1, q_options I (F := fun P => vp_in (nI i + 1) Ls ∧ P) (fun P p => ⟨v1, p⟩) eq1⟩
        · exact ⟨v1, v2, v3, q_claim J I (F := fun P => vp_in (nI i + 1) Ls ∧ vp_in (nI i + 2) Ls ∧ vp_in (nI i + 3) Ls ∧ P) (fun P p => ⟨v1, v2, v3, p⟩) eq1⟩
        · exact q_next I eq1
        · exact q_phase I eq1
        · exact q_who I eq1
        · exact q_drawn I eq1
        · exact ⟨v1, v2, q_concealed I (F := fun P => vp_in (nI i + 1) Ls ∧ vp_in (nI i + 2) Ls ∧ P) (fun P p => ⟨v1, v2, p⟩) eq1⟩
        · exact ⟨v1, v2, q_meld I (F := fun P => vp_in (nI i + 1) Ls ∧ vp_in (nI i + 2) Ls ∧ P) (fun P p => ⟨v1, v2, p⟩) eq1⟩
        · exact ⟨v1, v2, q_river I (F := fun P => vp_in (nI i + 1) Ls ∧ vp_in (nI i + 2) Ls ∧ P) (fun P p => ⟨v1, v2, p⟩) eq1⟩
        · exact ⟨v1, q_waits I (F := fun P => vp_in (nI i + 1) Ls ∧ P) (fun P p => ⟨v1, p⟩) eq2⟩
        · exact ⟨v1, q_furiten I (F := fun P => vp_in (nI i + 1) Ls ∧ P) (fun P p => ⟨v1, p⟩) eq1⟩
        · exact ⟨v1, q_points I (F := fun P => vp_in (nI i + 1) Ls ∧ P) (fun P p => ⟨v1, p⟩) eq1⟩
        · exact ⟨v1, q_table I (F := fun P => vp_in (nI i + 1) Ls ∧ P) (fun P p => ⟨v1, p⟩) eq1⟩
        · exact ⟨v1, v2, q_worth I (F := fun P => vp_in (nI i + 1) Ls ∧ vp_in (nI i + 2) Ls ∧ P) (fun P p => ⟨v1, v2, p⟩) eq1⟩
        · exact ⟨v1, q_yaku I (F := fun P => vp_in (nI i + 1) Ls ∧ P) (fun P p => ⟨v1, p⟩) eq2⟩
        · exact q_state I eq1
  unfold zl_goal
  exact zl_start rfl (fun m I => ⟨1000, main 999 1 m (by omega) (by omega) (by omega) I⟩)
