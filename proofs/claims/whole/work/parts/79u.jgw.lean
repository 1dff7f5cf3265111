/-! A HAND THAT IS WORTH SOMETHING WAITED FOR THE TILE -/
theorem ec_upc (S : zS) (p : Nat) : ec S p false = upc (cf S p) (til S) := by
  funext j
  unfold ec upc
  by_cases q : j = til S
  · rw [if_pos ⟨rfl, q⟩, if_pos q]
  · rw [if_neg (fun z => q z.2), if_neg q]
    rfl
theorem jgW : JgW := by
  intro S p W hn
  have b21 := W.1.b21 0
  have t34 : til S < 34 := by unfold til; omega
  refine ⟨?_, ?_⟩
  · have := W.a4 (til S)
    unfold ac at this
    rw [if_pos ⟨rfl, rfl⟩] at this
    omega
  · rw [← ec_upc]
    rcases jd_gr W with ⟨h, _⟩ | ⟨_, h⟩
    · rcases h with ⟨_, ⟨a, b, _⟩ | ⟨a, b, _⟩ | ⟨pr, t, _, ⟨w1, w2, w3, w4⟩, _, _⟩⟩
      · exact Or.inl ⟨a, Or.inr b⟩
      · exact Or.inl ⟨a, Or.inl b⟩
      · exact Or.inr ⟨pr, w1, w2, (g_iff w2 34 0 0 0).mpr (Vs_of_rs 34 0 0 0 (fun j _ _ => w3 j) w4)⟩
    · exact absurd (by rw [h]) hn
