/-! every call keeps the relation, with equal answers -/
theorem sim_all : Sim 2000 Rel := by
  have hF : 2000 ≤ 2000 := Nat.le_refl _
  refine ⟨?_, ?_, ?_, ?_, ?_, ?_, ?_, ?_, ?_, ?_, ?_, ?_, ?_, ?_, ?_, ?_, ?_, ?_, ?_, ?_, ?_, ?_, ?_, ?_, ?_, ?_, ?_, ?_, ?_, ?_, ?_, ?_, ?_, ?_⟩
  · exact fun μ ρ a1 a2 a3 a4 h => sim_name hF μ ρ a1 a2 a3 a4 h
  · exact fun μ ρ a1 h => sim_read hF μ ρ a1 h
  · intro μ ρ a1 a2 h
    obtain ⟨r, e1, e2⟩ := sim_about hF μ ρ a1 a2 h
    exact ⟨r, μ, ρ, e1, e2, h⟩
  · exact fun μ ρ a1 a2 a3 h => sim_answer hF μ ρ a1 a2 a3 h
  · exact fun μ ρ a1 h => sim_asOf hF μ ρ a1 h
  · exact fun μ ρ a1 a2 h => sim_many hF μ ρ a1 a2 h
  · exact fun μ ρ a1 a2 h => sim_type hF μ ρ a1 a2 h
  · exact fun μ ρ a1 h => sim_wipe hF μ ρ a1 h
  · intro μ ρ a1 h
    obtain ⟨r, ρ2, e1, e2, e3⟩ := sim_fault hF μ ρ a1 h
    exact ⟨r, μ, ρ2, e1, e2, rel_same h (SmC.rf μ) e3⟩
  · intro μ ρ a1 h
    obtain ⟨r, ρ2, e1, e2, e3⟩ := sim_can hF μ ρ a1 h
    exact ⟨r, μ, ρ2, e1, e2, rel_same h (SmC.rf μ) e3⟩
  · intro μ ρ a1 h
    obtain ⟨r, μ2, ρ2, e1, e2, e3, e4⟩ := sim_draws hF μ ρ a1 h
    exact ⟨r, μ2, ρ2, e1, e2, rel_same h e3 e4⟩
  · intro μ ρ a1 a2 a3 h
    obtain ⟨r, μ2, ρ2, e1, e2, e3, e4⟩ := sim_share hF μ ρ a1 a2 a3 h
    exact ⟨r, μ2, ρ2, e1, e2, rel_same h e3 e4⟩
  · exact fun μ ρ a1 a2 a3 a4 h => sim_both hF μ ρ a1 a2 a3 a4 h
  · exact fun μ ρ a1 a2 h => sim_width hF μ ρ a1 a2 h
  · intro μ ρ a1 a2 h
    obtain ⟨r, μ2, ρ2, e1, e2, e3, e4⟩ := sim_lots hF μ ρ a1 a2 h
    exact ⟨r, μ2, ρ2, e1, e2, rel_same h e3 e4⟩
  · exact fun μ ρ a1 a2 h => sim_makes hF μ ρ a1 a2 h
  · exact fun μ ρ a1 a2 a3 h => sim_sum hF μ ρ a1 a2 a3 h
  · exact fun μ ρ a1 h => sim_silent hF μ ρ a1 h
  · exact fun μ ρ a1 a2 h => sim_spread hF μ ρ a1 a2 h
  · exact fun μ ρ a1 a2 h => sim_wider hF μ ρ a1 a2 h
  · exact fun μ ρ a1 a2 h => sim_edge hF μ ρ a1 a2 h
  · exact fun μ ρ a1 a2 a3 h => sim_known 2000 μ ρ a1 a2 a3 h
  · exact fun μ ρ a1 a2 a3 a4 h => sim_weight hF μ ρ a1 a2 a3 a4 h
  · exact fun μ ρ a1 a2 a3 a4 h => sim_led hF μ ρ a1 a2 a3 a4 h
  · exact fun μ ρ a1 a2 h => sim_cost 2000 μ ρ a1 a2 h
  · exact fun μ ρ a1 a2 a3 a4 h => sim_again hF μ ρ a1 a2 a3 a4 h
  · exact fun μ ρ a1 a2 a3 h => sim_sheet hF μ ρ a1 a2 a3 h
  · exact fun μ ρ a1 h => sim_lose 2000 μ ρ a1 h
  · exact fun μ ρ a1 a2 a3 a4 h => sim_put 2000 μ ρ a1 a2 a3 a4 h
  · exact fun μ ρ a1 a2 a3 h => sim_get 2000 μ ρ a1 a2 a3 h
  · exact fun μ ρ a1 a2 a3 a4 a5 h => sim_copy hF μ ρ a1 a2 a3 a4 a5 h
  · exact fun μ ρ a1 a2 h => sim_write hF μ ρ a1 a2 h
  · intro μ ρ a1 h
    obtain ⟨r, e1, e2⟩ := sim_count hF μ ρ a1 h
    exact ⟨r, μ, ρ, e1, e2, h⟩
  · exact fun μ ρ h => sim_digest hF μ ρ h
