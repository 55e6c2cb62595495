section
/-! the whole of it -/
section FIN
variable {E : g_E} {l : Launch} {D D0 D1 D2 : g_D}
theorem q_first (h : q_n11 E D) (f1 : ∀ i, i < 208 → D1 i = D i) (t5 : D1 208 5 = 0) (t40 : D1 208 40 = 0) (t41 : D1 208 41 = -1) (z9 : ∀ j, D1 209 j = if j = 5 then 8 else if j = 2 then 3 else 0) (z11 : ∀ j, D1 211 j = 0) (g : ∀ k, k ≠ 209 → D2 k = D1 k) (g9 : ∀ j, ¬ (86 ≤ j ∧ j ≤ 213) → D2 209 j = D1 209 j) (w9 : ∀ i, i < 60 → D2 209 (86 + i) = q_bw (fun _ => 0) 0 i) (p9 : D2 209 146 = 1) (n9 : D2 209 213 = 0) (b9 : q_bgM D2) : q_R D2 := by
  obtain ⟨⟨c1, c3, c5, c7, c8, c9, c10, c11, c12, d6, d7, d8, d9⟩, h44, h45, h475, h476, h521, h522, h13, h14, h15⟩ := h
  have e : ∀ k, k < 208 → D2 k = D k := fun k hk => by rw [g k (by omega)]; exact f1 k hk
  have z : ∀ j, ¬ (86 ≤ j ∧ j ≤ 213) → D2 209 j = if j = 5 then 8 else if j = 2 then 3 else 0 := fun j hj => by rw [g9 j hj]; exact z9 j
  have bw : ∀ i, q_bw (fun _ => 0) 0 i = 255 := fun i => by unfold q_bw; rw [if_neg (by omega)]
  refine ⟨fun _ => 0, 0, fun _ => 0, 0, 3, 0, 0, 8, fun _ => 0, 1, 0, ⟨⟨⟨⟨?_, by omega, fun i hi => absurd hi (Nat.not_lt_zero i)⟩, ⟨?_, by omega, fun i hi => absurd hi (Nat.not_lt_zero i)⟩, ⟨?_, ?_, ?_, ?_, by decide, by decide, by decide, by decide, by decide, by decide, by decide⟩⟩, ⟨?_, ?_, fun i hi => absurd hi (Nat.not_lt_zero i), fun i hi => absurd hi (Nat.not_lt_zero i), ?_, ?_, ?_, ?_⟩, fun i hi => absurd hi (Nat.not_lt_zero i), fun i hi => absurd hi (Nat.not_lt_zero i), ?_⟩, ⟨fun _ => 0, 0, ⟨?_, by omega, fun i hi => absurd hi (Nat.not_lt_zero i)⟩, ⟨?_, by omega, fun i hi => absurd hi (Nat.not_lt_zero i)⟩, fun i hi => absurd hi (Nat.not_lt_zero i)⟩, ⟨0, 0, ?_, ?_, by decide, by decide, ?_, fun j hj => absurd hj (Nat.not_lt_zero j)⟩, fun q hq => Or.inl ⟨?_, ?_⟩, ⟨?_, ?_⟩⟩, fun y => ?_, fun y => ?_, fun y => ?_⟩
  · rw [e _ (by decide)]; exact c1
  · rw [e _ (by decide)]; exact c3
  · rw [e _ (by decide)]; exact c5 0 (by decide)
  · rw [e _ (by decide)]; exact c5 1 (by decide)
  · rw [e _ (by decide)]; exact c5 2 (by decide)
  · rw [e _ (by decide)]; exact c5 3 (by decide)
  · rw [z 0 (by decide)]; rfl
  · rw [z 1 (by decide)]; rfl
  · rw [z 2 (by decide)]; rfl
  · rw [z 3 (by decide)]; rfl
  · rw [z 4 (by decide)]; rfl
  · rw [z 5 (by decide)]; rfl
  · refine q_dv.new (W := fun _ => 255) ⟨fun i hi => ?_, fun i hi => ?_⟩ ⟨fun i hi => ?_, fun i hi => ?_, ?_, ?_, ?_, ?_⟩ (fun i _ => ⟨(by decide : (0 : Int) ≤ 255), Int.le_refl _⟩) (fun i hi => ?_) (fun i hi => ?_) p9 b9.2.1 b9.2.2.1 (fun t ht => ?_) ⟨?_, by decide, fun i hi => ?_, fun i _ => ⟨Int.le_refl 0, (by decide : (0 : Int) ≤ 255)⟩, q_none⟩ ⟨n9, fun i hi => absurd hi (Nat.not_lt_zero i)⟩
    · rw [e _ (by decide)]; exact c7 i hi
    · rw [e _ (by decide)]; exact c8 i hi
    · rw [e 10 (by decide), e 8 (by decide)]; exact (c9 i hi).trans (c7 i hi).symm
    · rw [e 11 (by decide), e 9 (by decide)]; exact (c10 i hi).trans (c8 i hi).symm
    · rw [e 7 (by decide)]; exact d6
    · rw [e 7 (by decide)]; exact d7
    · rw [e 7 (by decide)]; exact d8
    · rw [e 7 (by decide)]; exact d9
    · rw [w9 i hi]; exact bw i
    · rw [show 86 + (67 + i) = 153 + i by omega, b9.1 i hi, w9 i hi]; exact bw i
    · rw [show 86 + (63 + t) = 149 + t by omega]; exact b9.2.2.2 t ht
    · rw [e _ (by decide)]; exact c11
    · obtain rfl : i = 0 := by omega
      rw [e _ (by decide)]; exact c12
  · rw [e 45 (by decide)]; exact h45
  · rw [g 208 (by decide)]; exact t5
  · rw [e 52 (by decide)]; exact h521
  · rw [e 52 (by decide)]; exact h522
  · rw [z 518 (by decide)]; rfl
  · rw [e 44 (by decide)]; exact h44 q
  · rw [g 211 (by decide)]; exact z11 q
  · rw [e 47 (by decide), g 208 (by decide), h475, t40]
  · rw [e 47 (by decide), g 208 (by decide), h476, t41]
  · rw [e 0 (by decide), h13] at y; exact absurd y (by decide)
  · rw [e 0 (by decide), h14] at y; exact absurd y (by decide)
  · rw [e 0 (by decide), h15] at y; exact absurd y (by decide)
theorem pure_start (E : g_E) (l : Launch) (hE : E.2.2.2.2.1 ≤ 3072) : g_start E l (fun _ _ => 0) := by
  refine law_begin (fun D1 e1 => f_X11 rfl (fun D2 h2 D3 e3 => f_X12 g_len11 (by rw [show (cl_X11 0).length = 208 from g_len11]; exact g_SHeq) (fun D4 f4 t5 t40 t41 z9 z11 => ?_)))
  refine c_burns (o := fun _ => 0) (n := 0) (by rw [z9]; rfl) (by omega) (fun i hi => absurd hi (Nat.not_lt_zero i)) (fun D5 g g9 w9 p9 n9 b9 => ?_)
  refine y_loop (show g_fl E 0 ≤ 3072 from hE) (g_fl E 0) 0 D5 (by omega) (by omega) (q_first (D := D2) (D1 := D4) h2 (fun i hi => by rw [f4 i hi, e3, g_row_ne (by omega)]) ?_ ?_ t41 z9 z11 g g9 w9 p9 n9 b9)
  · rw [t5, e3, g_row_eq]
  · rw [t40, e3, g_row_eq]
end FIN
end
