section RUNS
variable {E : g_E} {l : Launch} {sh : List g_Sh} {D : g_D} {o w : Nat → Int} {n m : Nat}
theorem x_f3.fr {D D' : g_D} (h : x_f3 D D' 156) : x_fr D D' := fun k hk => h.1 k (by omega)
theorem c_X11_run {K : Int → g_D → Prop} {j v ch : Int} (ho : x_cl D 2 o n) (hw : x_cl D 4 w m) (hc : D 6 1 = ch) (kk : ∀ D', x_fr D D' → K (a_run ch o w n m j v) D') : k_X11_run E l D j v K := by
  have hm : D 4 1 = m := hw.1
  have hn40 : n ≤ 40 := ho.2.1
  have hm40 : m ≤ 40 := hw.2.1
  have k0 := kk D (x_fr.refl D)
  unfold a_run at kk k0
  refine s_X11_run (fun _ _ _ => ⟨fun h1 => ?_, fun h1 => ⟨fun h2 => ?_, fun h2 => ⟨fun h3 => ?_, fun h3 => ⟨fun h4 => ?_, fun h4 => ?_⟩⟩⟩⟩)
  · rw [if_neg (by omega)] at k0; exact k0
  · rw [if_neg (by omega)] at k0; exact k0
  · rw [if_neg (by omega)] at k0; exact k0
  · rw [if_pos (by omega)] at kk
    obtain ⟨i, rfl⟩ : ∃ i : Nat, j = i := ⟨j.toNat, by omega⟩
    rw [Int.toNat_natCast] at kk
    rw [hc]
    refine c_X7_findRun ip_Script_156 ip_Cells_2 ip_Cells_4 hn40 hm40 (by omega) ho hw (by decide) (fun D1 f3 hx => ?_)
    have q := kk D1 f3.fr
    obtain ⟨x1, x2, x3⟩ := hx
    rw [x1, x2, x3]
    refine ⟨fun a => ⟨fun b => ?_, fun b => ?_⟩, fun a => ?_⟩
    · rw [if_neg a, if_neg b] at q; exact q
    · rw [if_neg a, if_pos b] at q; exact q
    · rw [if_pos a] at q; exact q
  · rw [if_neg (by omega)] at k0; exact k0
/-- what the class has found of the widest run -/
def m_wf (ch : Int) (o w : Nat → Int) (n m J : Nat) : Int := if (m_wd o w n m J).2 = -1 then -1 else m_cn ch o w n m (m_wd o w n m J).2.toNat n
theorem l_X11_widest {K : Int → g_D → Prop} {v ch : Int} {D0 : g_D} (h0 : 0 ≤ v) (h2 : v ≤ 2) (ho : x_cl D0 2 o n) (hw : x_cl D0 4 w m) (hc : D0 6 1 = ch) (kk : ∀ D', x_fr D0 D' → K (a_widest ch o w n m v) D') :
    ∀ (q J : Nat) (D : g_D), m - J = q → J ≤ m → x_fr D0 D → n_X11_widest E l D 22 [some (g_R 0), some (g_I v), some (g_I (m_wd o w n m J).1), some (g_I (m_wd o w n m J).2), some (g_I (m_wf ch o w n m J)), some (g_I J)] K := by
  have hn40 : n ≤ 40 := ho.2.1
  have hm40 : m ≤ 40 := hw.2.1
  intro q
  induction q with
  | zero =>
    intro J D hq hJ hf
    obtain rfl : J = m := by omega
    have hm : D 4 1 = J := by rw [hf 4 (by omega)]; exact hw.1
    have k0 := kk D hf
    unfold a_widest at k0
    rw [if_pos ⟨h0, h2⟩] at k0
    refine s_X11_widest_22 (fun _ _ _ _ _ _ => ⟨fun _ => ⟨fun a => ⟨fun b => ?_, fun b => ?_⟩, fun a => ?_⟩, fun h => (by omega : False).elim⟩)
    · rw [if_neg a] at k0
      unfold m_wf
      by_cases hq : (m_wd o w n J J).2 = -1
      · rw [if_pos (Or.inl hq), hq] at k0; rw [if_pos hq]; exact k0
      · rw [if_neg (by omega)] at k0; rw [if_neg hq]; exact k0
    · rw [if_neg a, if_pos (Or.inr b)] at k0; exact k0
    · rw [if_pos a] at k0; exact k0
  | succ q ih =>
    intro J D hq hJ hf
    have ih' := fun D => ih (J + 1) D (by omega) (by omega)
    have hm : D 4 1 = m := by rw [hf 4 (by omega)]; exact hw.1
    have ho' : x_cl D 2 o n := ho.fr (hf 2 (by omega)) (hf 3 (by omega))
    have hw' : x_cl D 4 w m := hw.fr (hf 4 (by omega)) (hf 5 (by omega))
    have hc' : D 6 1 = ch := by rw [hf 6 (by omega)]; exact hc
    refine s_X11_widest_22 (fun _ _ _ _ _ _ => ⟨fun h => (by omega : False).elim, fun _ => ?_⟩)
    rw [hc']
    refine c_X7_findRun ip_Script_156 ip_Cells_2 ip_Cells_4 hn40 hm40 (by omega) ho' hw' (by decide) (fun D1 f3 hx => ?_)
    obtain ⟨x1, x2, x3⟩ := hx
    have q1 := ih' D1 (hf.trans f3.fr)
    unfold m_wf at q1
    rw [m_wd, ← g_cast1] at q1
    rw [x1, x2]
    refine ⟨fun h => ⟨⟨by omega, by omega⟩, ?_⟩, fun h => ⟨⟨by omega, by omega⟩, ?_⟩⟩
    · rw [if_neg (by omega)] at q1; exact q1
    · rw [if_pos (by omega), if_neg (by dsimp only; omega)] at q1
      dsimp only at q1
      rw [Int.toNat_natCast] at q1
      exact q1
theorem c_X11_widest {K : Int → g_D → Prop} {v ch : Int} (ho : x_cl D 2 o n) (hw : x_cl D 4 w m) (hc : D 6 1 = ch) (kk : ∀ D', x_fr D D' → K (a_widest ch o w n m v) D') : k_X11_widest E l D v K := by
  have k0 := kk D (x_fr.refl D)
  refine s_X11_widest (fun _ _ => ⟨fun h1 => ?_, fun h1 => ⟨fun h2 => ?_, fun h2 => ?_⟩⟩)
  · unfold a_widest at k0; rw [if_neg (by omega)] at k0; exact k0
  · exact l_X11_widest (by omega) h2 ho hw hc kk m 0 D rfl (Nat.zero_le _) (x_fr.refl D)
  · unfold a_widest at k0; rw [if_neg (by omega)] at k0; exact k0
end RUNS
