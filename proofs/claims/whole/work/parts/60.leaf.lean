/-! specifications, by continuation: what a method answers, and the data behind it -/
section LEAF
variable {E : g_E} {l : Launch} {sh : List g_Sh} {D : g_D}
theorem c_X12_within {K : Int → g_D → Prop} {v lo hi : Int} (k : (lo ≤ v ∧ v ≤ hi → K 1 D) ∧ (¬ (lo ≤ v ∧ v ≤ hi) → K 0 D)) : k_X12_within E l sh D v lo hi K := by
  refine s_X12_within (fun _ _ _ _ => ⟨fun h => k.2 (by omega), fun h => ⟨fun h2 => k.2 (by omega), fun h2 => k.1 (by omega)⟩⟩)
theorem c_X12_isTerm {K : Int → g_D → Prop} {w v : Int} (k : (((w = 0 ∧ 3 ≤ v ∧ v ≤ 8) ∨ (w = 3 ∧ 0 ≤ v ∧ v ≤ 20) ∨ (w ≠ 0 ∧ w ≠ 3 ∧ 0 ≤ v ∧ v ≤ 2)) → K 1 D) ∧ (¬ ((w = 0 ∧ 3 ≤ v ∧ v ≤ 8) ∨ (w = 3 ∧ 0 ≤ v ∧ v ≤ 20) ∨ (w ≠ 0 ∧ w ≠ 3 ∧ 0 ≤ v ∧ v ≤ 2)) → K 0 D)) : k_X12_isTerm E l sh D w v K := by
  refine s_X12_isTerm (fun _ _ _ => ?_)
  grind [c_X12_within]
end LEAF
