section GL
variable {E : g_E} {l : Launch} {M M' : g_Md} {d mc ms nc ns pc idx n ci b d' : Nat} {L : List (Option g_V)} {sh : List g_Sh} {D : g_D} {R : g_Ro} {fs : List (Option (Option Nat))} {As rest St : List g_V}
theorem gl_cVi {K : Int → g_D → Prop} (hd : decode M.2.1 pc = .ok (.invokevirtual idx, 3)) (hm : g_mv M.1.cls idx n ci M') (hs : sh[b]? = some (.inr (.inr (ci, fs)))) (hn : As.length = n) (hS8 : g_sum rest ≤ 8) (hdd : d' + 1 ≤ d) (hc : nc ≤ mc) (hn2 : ns ≤ ms) (hSt : As.reverse ++ g_R b :: rest = St) (hM : g_Ki E l M' d' (g_R b :: As) sh D K) (k : ∀ x D', g_r x → K x D' → g_G E l M d mc ms nc ns (pc + 3) L (g_I x :: rest) sh D' R) : g_G E l M d mc ms nc ns pc L St sh D R := by
  subst hSt
  obtain ⟨h1, h2, h3, q, h4, h5⟩ := hm
  refine g_callV hd h1 h2 h3 h4 h5 hs hn hS8 hdd hc hn2 hM ?_
  rintro r sh' D' - ⟨x, rfl, hx, rfl, hK⟩
  exact k x D' hx hK
theorem gl_cVl {K : Int → g_D → Prop} (hd : decode M.2.1 pc = .ok (.invokevirtual idx, 3)) (hm : g_mv M.1.cls idx n ci M') (hs : sh[b]? = some (.inr (.inr (ci, fs)))) (hn : As.length = n) (hS8 : g_sum rest ≤ 8) (hdd : d' + 1 ≤ d) (hc : nc ≤ mc) (hn2 : ns ≤ ms) (hSt : As.reverse ++ g_R b :: rest = St) (hM : g_Kl E l M' d' (g_R b :: As) sh D K) (k : ∀ x D', g_r8 x → K x D' → g_G E l M d mc ms nc ns (pc + 3) L (g_J x :: rest) sh D' R) : g_G E l M d mc ms nc ns pc L St sh D R := by
  subst hSt
  obtain ⟨h1, h2, h3, q, h4, h5⟩ := hm
  refine g_callV hd h1 h2 h3 h4 h5 hs hn hS8 hdd hc hn2 hM ?_
  rintro r sh' D' - ⟨x, rfl, hx, rfl, hK⟩
  exact k x D' hx hK
end GL
/-- the law at its loop's head -/
abbrev g_RL : g_Ro := fun r _ _ => r = some (g_I 1)
abbrev n_L_law (E : g_E) (l : Launch) (nc ns : Nat) (D : g_D) (pc : Nat) (L : List (Option g_V)) : Prop := g_G E l m_L_law 2048 600000 7302250 nc ns pc L [] g_SH D g_RL
