theorem w_oin : Cond.instanceMethod objectInit ∈ g_t := (tw1 24 rfl rfl)
theorem w_oco : Cond.code objectInit ⟨#[0xb1]⟩ 1 none ∈ g_t := (tw1 25 rfl rfl)
theorem wa_0 : Cond.arrayClass (newarray.typeOf .int) ∈ g_t := (tw1 60 rfl rfl)
theorem wa_1 : Cond.arrayClass (newarray.typeOf .boolean) ∈ g_t := (tw1 194 rfl rfl)
theorem g_fx1 {E : g_E} (j : Nat) : g_r (g_fx E 1 j) := by
  show g_r (([3, 0, 0, 8] : List Int).getD j 0)
  match j with
  | 0 => exact ⟨by decide, by decide⟩
  | 1 => exact ⟨by decide, by decide⟩
  | 2 => exact ⟨by decide, by decide⟩
  | 3 => exact ⟨by decide, by decide⟩
  | _ + 4 => exact g_r0
theorem g_ndvs {fs : List (Option (Option Nat))} (h : ∀ o ∈ fs, o = none ∨ o = some none) (a : Nat → Nat) : fs.mapIdx (g_fv a (fun _ => 0)) = fs.map (fun o => if o = none then Value.int 0 else .null) := by
  apply List.ext_getElem?
  intro i
  rw [List.getElem?_mapIdx, List.getElem?_map]
  cases hf : fs[i]? with
  | none => rfl
  | some o =>
    rcases h o (List.mem_of_getElem? hf) with rfl | rfl <;> rfl
set_option maxRecDepth 20000 in
theorem wl_X11_9 : Cond.classLink RX11 9 RX8 ∈ g_t := (tw1 26 rfl rfl)
set_option maxRecDepth 20000 in
theorem nd_X11_9 : g_nd RX11 9 8 4 [some none, some none, some none, some none] [.null, .null, .null, .null] := ⟨RX8, TX8, tyX8, rfl, uw_X8, tyX8_ok, (tw1 26 rfl rfl), (tw1 27 rfl rfl), wi_X8, by decide +kernel, fun a => (g_ndvs (by decide) a).trans rfl, by decide⟩
set_option maxRecDepth 20000 in
theorem nd_X11_24 : g_nd RX11 24 0 2 [some none, none] [.null, .int 0] := ⟨RX0, TX0, tyX0, rfl, uw_X0, tyX0_ok, (tw1 150 rfl rfl), (tw1 33 rfl rfl), wi_X0, by decide +kernel, fun a => (g_ndvs (by decide) a).trans rfl, by decide⟩
set_option maxRecDepth 20000 in
theorem nd_X11_33 : g_nd RX11 33 5 9 [some none, some none, some none, some none, none, none, none, none, none] [.null, .null, .null, .null, .int 0, .int 0, .int 0, .int 0, .int 0] := ⟨RX5, TX5, tyX5, rfl, uw_X5, tyX5_ok, (tw1 152 rfl rfl), (tw1 153 rfl rfl), wi_X5, by decide +kernel, fun a => (g_ndvs (by decide) a).trans rfl, by decide⟩
set_option maxRecDepth 20000 in
theorem nd_X11_40 : g_nd RX11 40 3 3 [some none, none, none] [.null, .int 0, .int 0] := ⟨RX3, TX3, tyX3, rfl, uw_X3, tyX3_ok, (tw1 195 rfl rfl), (tw1 196 rfl rfl), wi_X3, by decide +kernel, fun a => (g_ndvs (by decide) a).trans rfl, by decide⟩
set_option maxRecDepth 20000 in
theorem nd_X11_47 : g_nd RX11 47 9 3 [some none, some none, none] [.null, .null, .int 0] := ⟨RX9, TX9, tyX9, rfl, uw_X9, tyX9_ok, (tw1 215 rfl rfl), (tw1 216 rfl rfl), wi_X9, by decide +kernel, fun a => (g_ndvs (by decide) a).trans rfl, by decide⟩
set_option maxRecDepth 20000 in
theorem nd_X11_54 : g_nd RX11 54 7 12 [some none, some none, some none, some none, some none, some none, some none, some none, none, none, none, none] [.null, .null, .null, .null, .null, .null, .null, .null, .int 0, .int 0, .int 0, .int 0] := ⟨RX7, TX7, tyX7, rfl, uw_X7, tyX7_ok, (tw1 234 rfl rfl), (tw1 235 rfl rfl), wi_X7, by decide +kernel, fun a => (g_ndvs (by decide) a).trans rfl, by decide⟩
set_option maxRecDepth 20000 in
theorem nd_X11_61 : g_nd RX11 61 4 12 [some none, some none, some none, some none, some none, none, none, none, none, none, none, none] [.null, .null, .null, .null, .null, .int 0, .int 0, .int 0, .int 0, .int 0, .int 0, .int 0] := ⟨RX4, TX4, tyX4, rfl, uw_X4, tyX4_ok, (tw2 98 rfl rfl), (tw2 99 rfl rfl), wi_X4, by decide +kernel, fun a => (g_ndvs (by decide) a).trans rfl, by decide⟩
set_option maxRecDepth 20000 in
theorem nd_X11_74 : g_nd RX11 74 1 11 [some none, some none, some none, some none, none, some none, some none, some none, some none, some none, some none] [.null, .null, .null, .null, .int 0, .null, .null, .null, .null, .null, .null] := ⟨RX1, TX1, tyX1, rfl, uw_X1, tyX1_ok, (tw2 152 rfl rfl), (tw2 153 rfl rfl), wi_X1, by decide +kernel, fun a => (g_ndvs (by decide) a).trans rfl, by decide⟩
set_option maxRecDepth 20000 in
theorem nd_X11_81 : g_nd RX11 81 10 2 [some none, some none] [.null, .null] := ⟨RX10, TX10, tyX10, rfl, uw_X10, tyX10_ok, (tw2 203 rfl rfl), (tw2 204 rfl rfl), wi_X10, by decide +kernel, fun a => (g_ndvs (by decide) a).trans rfl, by decide⟩
set_option maxRecDepth 20000 in
theorem nd_X1_9 : g_nd RX1 9 5 9 [some none, some none, some none, some none, none, none, none, none, none] [.null, .null, .null, .null, .int 0, .int 0, .int 0, .int 0, .int 0] := ⟨RX5, TX5, tyX5, rfl, uw_X5, tyX5_ok, (tw2 158 rfl rfl), (tw1 153 rfl rfl), wi_X5, by decide +kernel, fun a => (g_ndvs (by decide) a).trans rfl, by decide⟩
set_option maxRecDepth 20000 in
theorem nd_X1_18 : g_nd RX1 18 0 2 [some none, none] [.null, .int 0] := ⟨RX0, TX0, tyX0, rfl, uw_X0, tyX0_ok, (tw2 160 rfl rfl), (tw1 33 rfl rfl), wi_X0, by decide +kernel, fun a => (g_ndvs (by decide) a).trans rfl, by decide⟩
set_option maxRecDepth 20000 in
theorem nd_X1_43 : g_nd RX1 43 2 10 [some none, some none, some none, some none, some none, some none, none, none, none, none] [.null, .null, .null, .null, .null, .null, .int 0, .int 0, .int 0, .int 0] := ⟨RX2, TX2, tyX2, rfl, uw_X2, tyX2_ok, (tw2 162 rfl rfl), (tw1 67 rfl rfl), wi_X2, by decide +kernel, fun a => (g_ndvs (by decide) a).trans rfl, by decide⟩
set_option maxRecDepth 20000 in
theorem nd_X2_24 : g_nd RX2 24 0 2 [some none, none] [.null, .int 0] := ⟨RX0, TX0, tyX0, rfl, uw_X0, tyX0_ok, (tw1 72 rfl rfl), (tw1 33 rfl rfl), wi_X0, by decide +kernel, fun a => (g_ndvs (by decide) a).trans rfl, by decide⟩
set_option maxRecDepth 20000 in
theorem wl_X3_9 : Cond.classLink RX3 9 RX2 ∈ g_t := (tw1 201 rfl rfl)
set_option maxRecDepth 20000 in
theorem nd_X3_9 : g_nd RX3 9 2 10 [some none, some none, some none, some none, some none, some none, none, none, none, none] [.null, .null, .null, .null, .null, .null, .int 0, .int 0, .int 0, .int 0] := ⟨RX2, TX2, tyX2, rfl, uw_X2, tyX2_ok, (tw1 201 rfl rfl), (tw1 67 rfl rfl), wi_X2, by decide +kernel, fun a => (g_ndvs (by decide) a).trans rfl, by decide⟩
set_option maxRecDepth 20000 in
theorem nd_X4_24 : g_nd RX4 24 0 2 [some none, none] [.null, .int 0] := ⟨RX0, TX0, tyX0, rfl, uw_X0, tyX0_ok, (tw2 104 rfl rfl), (tw1 33 rfl rfl), wi_X0, by decide +kernel, fun a => (g_ndvs (by decide) a).trans rfl, by decide⟩
set_option maxRecDepth 20000 in
theorem nd_X7_27 : g_nd RX7 27 6 9 [some none, some none, some none, none, none, none, none, none, none] [.null, .null, .null, .int 0, .int 0, .int 0, .int 0, .int 0, .int 0] := ⟨RX6, TX6, tyX6, rfl, uw_X6, tyX6_ok, (tw2 0 rfl rfl), (tw2 1 rfl rfl), wi_X6, by decide +kernel, fun a => (g_ndvs (by decide) a).trans rfl, by decide⟩
set_option maxRecDepth 20000 in
theorem nd_X8_9 : g_nd RX8 9 0 2 [some none, none] [.null, .int 0] := ⟨RX0, TX0, tyX0, rfl, uw_X0, tyX0_ok, (tw1 32 rfl rfl), (tw1 33 rfl rfl), wi_X0, by decide +kernel, fun a => (g_ndvs (by decide) a).trans rfl, by decide⟩
set_option maxRecDepth 20000 in
theorem nd_X8_36 : g_nd RX8 36 2 10 [some none, some none, some none, some none, some none, some none, none, none, none, none] [.null, .null, .null, .null, .null, .null, .int 0, .int 0, .int 0, .int 0] := ⟨RX2, TX2, tyX2, rfl, uw_X2, tyX2_ok, (tw1 66 rfl rfl), (tw1 67 rfl rfl), wi_X2, by decide +kernel, fun a => (g_ndvs (by decide) a).trans rfl, by decide⟩
set_option maxRecDepth 20000 in
theorem nd_X10_9 : g_nd RX10 9 2 10 [some none, some none, some none, some none, some none, some none, none, none, none, none] [.null, .null, .null, .null, .null, .null, .int 0, .int 0, .int 0, .int 0] := ⟨RX2, TX2, tyX2, rfl, uw_X2, tyX2_ok, (tw2 209 rfl rfl), (tw1 67 rfl rfl), wi_X2, by decide +kernel, fun a => (g_ndvs (by decide) a).trans rfl, by decide⟩
set_option maxRecDepth 20000 in
theorem nd_L_7 : g_nd RL 7 11 16 [some none, some none, some none, some none, some none, some none, some none, some none, some none, some none, some none, some none, some none, none, none, none] [.null, .null, .null, .null, .null, .null, .null, .null, .null, .null, .null, .null, .null, .int 0, .int 0, .int 0] := ⟨RX11, TX11, tyX11, rfl, uw_X11, tyX11_ok, (tw1 18 rfl rfl), (tw1 19 rfl rfl), wi_X11, by decide +kernel, fun a => (g_ndvs (by decide) a).trans rfl, by decide⟩
set_option maxRecDepth 20000 in
theorem nd_L_10 : g_nd RL 10 12 51 [none, some none, some none, some none, some none, none, some none, some none, some none, some none, some none, some none, some none, some none, none, some none, some none, some none, some none, some none, some none, some none, some none, some none, some none, some none, none, none, none, none, none, some none, some none, some none, none, none, none, none, none, none, none, none, some none, some none, some none, some none, none, some none, some none, some none, none] [.int 0, .null, .null, .null, .null, .int 0, .null, .null, .null, .null, .null, .null, .null, .null, .int 0, .null, .null, .null, .null, .null, .null, .null, .null, .null, .null, .null, .int 0, .int 0, .int 0, .int 0, .int 0, .null, .null, .null, .int 0, .int 0, .int 0, .int 0, .int 0, .int 0, .int 0, .int 0, .null, .null, .null, .null, .int 0, .null, .null, .null, .int 0] := ⟨RX12, TX12, tyX12, rfl, uw_X12, tyX12_ok, (tw5 225 rfl rfl), (tw5 226 rfl rfl), wi_X12, by decide +kernel, fun a => (g_ndvs (by decide) a).trans rfl, by decide⟩
theorem fr_X0_0 : g_fr RX0 0 0 := fun C T N h => by cases h; exact ⟨rfl, rfl, _, tyX0_ok 0 (by decide), fun q => ⟨rfl, rfl⟩⟩
theorem fr_X1_0 : g_fr RX1 1 0 := fun C T N h => by cases h; exact ⟨rfl, rfl, _, tyX1_ok 0 (by decide), fun q => ⟨rfl, rfl⟩⟩
theorem fr_X1_1 : g_fr RX1 1 1 := fun C T N h => by cases h; exact ⟨rfl, rfl, _, tyX1_ok 1 (by decide), fun q => ⟨rfl, rfl⟩⟩
theorem fr_X1_2 : g_fr RX1 1 2 := fun C T N h => by cases h; exact ⟨rfl, rfl, _, tyX1_ok 2 (by decide), fun q => ⟨rfl, rfl⟩⟩
theorem fr_X1_3 : g_fr RX1 1 3 := fun C T N h => by cases h; exact ⟨rfl, rfl, _, tyX1_ok 3 (by decide), fun q => ⟨rfl, rfl⟩⟩
theorem fr_X1_5 : g_fr RX1 1 5 := fun C T N h => by cases h; exact ⟨rfl, rfl, _, tyX1_ok 5 (by decide), fun q => ⟨rfl, rfl⟩⟩
theorem fr_X1_6 : g_fr RX1 1 6 := fun C T N h => by cases h; exact ⟨rfl, rfl, _, tyX1_ok 6 (by decide), fun q => ⟨rfl, rfl⟩⟩
theorem fr_X1_7 : g_fr RX1 1 7 := fun C T N h => by cases h; exact ⟨rfl, rfl, _, tyX1_ok 7 (by decide), fun q => ⟨rfl, rfl⟩⟩
theorem fr_X1_8 : g_fr RX1 1 8 := fun C T N h => by cases h; exact ⟨rfl, rfl, _, tyX1_ok 8 (by decide), fun q => ⟨rfl, rfl⟩⟩
theorem fr_X1_9 : g_fr RX1 1 9 := fun C T N h => by cases h; exact ⟨rfl, rfl, _, tyX1_ok 9 (by decide), fun q => ⟨rfl, rfl⟩⟩
theorem fr_X1_10 : g_fr RX1 1 10 := fun C T N h => by cases h; exact ⟨rfl, rfl, _, tyX1_ok 10 (by decide), fun q => ⟨rfl, rfl⟩⟩
theorem fr_X10_0 : g_fr RX10 10 0 := fun C T N h => by cases h; exact ⟨rfl, rfl, _, tyX10_ok 0 (by decide), fun q => ⟨rfl, rfl⟩⟩
theorem fr_X10_1 : g_fr RX10 10 1 := fun C T N h => by cases h; exact ⟨rfl, rfl, _, tyX10_ok 1 (by decide), fun q => ⟨rfl, rfl⟩⟩
theorem fr_X11_0 : g_fr RX11 11 0 := fun C T N h => by cases h; exact ⟨rfl, rfl, _, tyX11_ok 0 (by decide), fun q => ⟨rfl, rfl⟩⟩
theorem fr_X11_1 : g_fr RX11 11 1 := fun C T N h => by cases h; exact ⟨rfl, rfl, _, tyX11_ok 1 (by decide), fun q => ⟨rfl, rfl⟩⟩
theorem fr_X11_2 : g_fr RX11 11 2 := fun C T N h => by cases h; exact ⟨rfl, rfl, _, tyX11_ok 2 (by decide), fun q => ⟨rfl, rfl⟩⟩
theorem fr_X11_3 : g_fr RX11 11 3 := fun C T N h => by cases h; exact ⟨rfl, rfl, _, tyX11_ok 3 (by decide), fun q => ⟨rfl, rfl⟩⟩
theorem fr_X11_4 : g_fr RX11 11 4 := fun C T N h => by cases h; exact ⟨rfl, rfl, _, tyX11_ok 4 (by decide), fun q => ⟨rfl, rfl⟩⟩
theorem fr_X11_5 : g_fr RX11 11 5 := fun C T N h => by cases h; exact ⟨rfl, rfl, _, tyX11_ok 5 (by decide), fun q => ⟨rfl, rfl⟩⟩
theorem fr_X11_6 : g_fr RX11 11 6 := fun C T N h => by cases h; exact ⟨rfl, rfl, _, tyX11_ok 6 (by decide), fun q => ⟨rfl, rfl⟩⟩
theorem fr_X11_7 : g_fr RX11 11 7 := fun C T N h => by cases h; exact ⟨rfl, rfl, _, tyX11_ok 7 (by decide), fun q => ⟨rfl, rfl⟩⟩
theorem fr_X11_8 : g_fr RX11 11 8 := fun C T N h => by cases h; exact ⟨rfl, rfl, _, tyX11_ok 8 (by decide), fun q => ⟨rfl, rfl⟩⟩
theorem fr_X11_9 : g_fr RX11 11 9 := fun C T N h => by cases h; exact ⟨rfl, rfl, _, tyX11_ok 9 (by decide), fun q => ⟨rfl, rfl⟩⟩
theorem fr_X11_10 : g_fr RX11 11 10 := fun C T N h => by cases h; exact ⟨rfl, rfl, _, tyX11_ok 10 (by decide), fun q => ⟨rfl, rfl⟩⟩
theorem fr_X11_11 : g_fr RX11 11 11 := fun C T N h => by cases h; exact ⟨rfl, rfl, _, tyX11_ok 11 (by decide), fun q => ⟨rfl, rfl⟩⟩
theorem fr_X11_12 : g_fr RX11 11 12 := fun C T N h => by cases h; exact ⟨rfl, rfl, _, tyX11_ok 12 (by decide), fun q => ⟨rfl, rfl⟩⟩
theorem fr_X12_1 : g_fr RX12 12 1 := fun C T N h => by cases h; exact ⟨rfl, rfl, _, tyX12_ok 1 (by decide), fun q => ⟨rfl, rfl⟩⟩
theorem fr_X12_2 : g_fr RX12 12 2 := fun C T N h => by cases h; exact ⟨rfl, rfl, _, tyX12_ok 2 (by decide), fun q => ⟨rfl, rfl⟩⟩
theorem fr_X12_3 : g_fr RX12 12 3 := fun C T N h => by cases h; exact ⟨rfl, rfl, _, tyX12_ok 3 (by decide), fun q => ⟨rfl, rfl⟩⟩
theorem fr_X12_4 : g_fr RX12 12 4 := fun C T N h => by cases h; exact ⟨rfl, rfl, _, tyX12_ok 4 (by decide), fun q => ⟨rfl, rfl⟩⟩
theorem fr_X12_6 : g_fr RX12 12 6 := fun C T N h => by cases h; exact ⟨rfl, rfl, _, tyX12_ok 6 (by decide), fun q => ⟨rfl, rfl⟩⟩
theorem fr_X12_7 : g_fr RX12 12 7 := fun C T N h => by cases h; exact ⟨rfl, rfl, _, tyX12_ok 7 (by decide), fun q => ⟨rfl, rfl⟩⟩
theorem fr_X12_8 : g_fr RX12 12 8 := fun C T N h => by cases h; exact ⟨rfl, rfl, _, tyX12_ok 8 (by decide), fun q => ⟨rfl, rfl⟩⟩
theorem fr_X12_9 : g_fr RX12 12 9 := fun C T N h => by cases h; exact ⟨rfl, rfl, _, tyX12_ok 9 (by decide), fun q => ⟨rfl, rfl⟩⟩
theorem fr_X12_10 : g_fr RX12 12 10 := fun C T N h => by cases h; exact ⟨rfl, rfl, _, tyX12_ok 10 (by decide), fun q => ⟨rfl, rfl⟩⟩
theorem fr_X12_11 : g_fr RX12 12 11 := fun C T N h => by cases h; exact ⟨rfl, rfl, _, tyX12_ok 11 (by decide), fun q => ⟨rfl, rfl⟩⟩
theorem fr_X12_12 : g_fr RX12 12 12 := fun C T N h => by cases h; exact ⟨rfl, rfl, _, tyX12_ok 12 (by decide), fun q => ⟨rfl, rfl⟩⟩
theorem fr_X12_13 : g_fr RX12 12 13 := fun C T N h => by cases h; exact ⟨rfl, rfl, _, tyX12_ok 13 (by decide), fun q => ⟨rfl, rfl⟩⟩
theorem fr_X12_15 : g_fr RX12 12 15 := fun C T N h => by cases h; exact ⟨rfl, rfl, _, tyX12_ok 15 (by decide), fun q => ⟨rfl, rfl⟩⟩
theorem fr_X12_16 : g_fr RX12 12 16 := fun C T N h => by cases h; exact ⟨rfl, rfl, _, tyX12_ok 16 (by decide), fun q => ⟨rfl, rfl⟩⟩
theorem fr_X12_17 : g_fr RX12 12 17 := fun C T N h => by cases h; exact ⟨rfl, rfl, _, tyX12_ok 17 (by decide), fun q => ⟨rfl, rfl⟩⟩
theorem fr_X12_18 : g_fr RX12 12 18 := fun C T N h => by cases h; exact ⟨rfl, rfl, _, tyX12_ok 18 (by decide), fun q => ⟨rfl, rfl⟩⟩
theorem fr_X12_19 : g_fr RX12 12 19 := fun C T N h => by cases h; exact ⟨rfl, rfl, _, tyX12_ok 19 (by decide), fun q => ⟨rfl, rfl⟩⟩
theorem fr_X12_20 : g_fr RX12 12 20 := fun C T N h => by cases h; exact ⟨rfl, rfl, _, tyX12_ok 20 (by decide), fun q => ⟨rfl, rfl⟩⟩
theorem fr_X12_21 : g_fr RX12 12 21 := fun C T N h => by cases h; exact ⟨rfl, rfl, _, tyX12_ok 21 (by decide), fun q => ⟨rfl, rfl⟩⟩
theorem fr_X12_22 : g_fr RX12 12 22 := fun C T N h => by cases h; exact ⟨rfl, rfl, _, tyX12_ok 22 (by decide), fun q => ⟨rfl, rfl⟩⟩
theorem fr_X12_23 : g_fr RX12 12 23 := fun C T N h => by cases h; exact ⟨rfl, rfl, _, tyX12_ok 23 (by decide), fun q => ⟨rfl, rfl⟩⟩
theorem fr_X12_24 : g_fr RX12 12 24 := fun C T N h => by cases h; exact ⟨rfl, rfl, _, tyX12_ok 24 (by decide), fun q => ⟨rfl, rfl⟩⟩
theorem fr_X12_25 : g_fr RX12 12 25 := fun C T N h => by cases h; exact ⟨rfl, rfl, _, tyX12_ok 25 (by decide), fun q => ⟨rfl, rfl⟩⟩
theorem fr_X12_31 : g_fr RX12 12 31 := fun C T N h => by cases h; exact ⟨rfl, rfl, _, tyX12_ok 31 (by decide), fun q => ⟨rfl, rfl⟩⟩
theorem fr_X12_32 : g_fr RX12 12 32 := fun C T N h => by cases h; exact ⟨rfl, rfl, _, tyX12_ok 32 (by decide), fun q => ⟨rfl, rfl⟩⟩
theorem fr_X12_33 : g_fr RX12 12 33 := fun C T N h => by cases h; exact ⟨rfl, rfl, _, tyX12_ok 33 (by decide), fun q => ⟨rfl, rfl⟩⟩
theorem fr_X12_42 : g_fr RX12 12 42 := fun C T N h => by cases h; exact ⟨rfl, rfl, _, tyX12_ok 42 (by decide), fun q => ⟨rfl, rfl⟩⟩
theorem fr_X12_43 : g_fr RX12 12 43 := fun C T N h => by cases h; exact ⟨rfl, rfl, _, tyX12_ok 43 (by decide), fun q => ⟨rfl, rfl⟩⟩
theorem fr_X12_44 : g_fr RX12 12 44 := fun C T N h => by cases h; exact ⟨rfl, rfl, _, tyX12_ok 44 (by decide), fun q => ⟨rfl, rfl⟩⟩
theorem fr_X12_45 : g_fr RX12 12 45 := fun C T N h => by cases h; exact ⟨rfl, rfl, _, tyX12_ok 45 (by decide), fun q => ⟨rfl, rfl⟩⟩
theorem fr_X12_47 : g_fr RX12 12 47 := fun C T N h => by cases h; exact ⟨rfl, rfl, _, tyX12_ok 47 (by decide), fun q => ⟨rfl, rfl⟩⟩
theorem fr_X12_48 : g_fr RX12 12 48 := fun C T N h => by cases h; exact ⟨rfl, rfl, _, tyX12_ok 48 (by decide), fun q => ⟨rfl, rfl⟩⟩
theorem fr_X12_49 : g_fr RX12 12 49 := fun C T N h => by cases h; exact ⟨rfl, rfl, _, tyX12_ok 49 (by decide), fun q => ⟨rfl, rfl⟩⟩
theorem fr_X2_0 : g_fr RX2 2 0 := fun C T N h => by cases h; exact ⟨rfl, rfl, _, tyX2_ok 0 (by decide), fun q => ⟨rfl, rfl⟩⟩
theorem fr_X2_1 : g_fr RX2 2 1 := fun C T N h => by cases h; exact ⟨rfl, rfl, _, tyX2_ok 1 (by decide), fun q => ⟨rfl, rfl⟩⟩
theorem fr_X2_2 : g_fr RX2 2 2 := fun C T N h => by cases h; exact ⟨rfl, rfl, _, tyX2_ok 2 (by decide), fun q => ⟨rfl, rfl⟩⟩
theorem fr_X2_3 : g_fr RX2 2 3 := fun C T N h => by cases h; exact ⟨rfl, rfl, _, tyX2_ok 3 (by decide), fun q => ⟨rfl, rfl⟩⟩
theorem fr_X2_4 : g_fr RX2 2 4 := fun C T N h => by cases h; exact ⟨rfl, rfl, _, tyX2_ok 4 (by decide), fun q => ⟨rfl, rfl⟩⟩
theorem fr_X2_5 : g_fr RX2 2 5 := fun C T N h => by cases h; exact ⟨rfl, rfl, _, tyX2_ok 5 (by decide), fun q => ⟨rfl, rfl⟩⟩
theorem fr_X3_0 : g_fr RX3 3 0 := fun C T N h => by cases h; exact ⟨rfl, rfl, _, tyX3_ok 0 (by decide), fun q => ⟨rfl, rfl⟩⟩
theorem fr_X4_0 : g_fr RX4 4 0 := fun C T N h => by cases h; exact ⟨rfl, rfl, _, tyX4_ok 0 (by decide), fun q => ⟨rfl, rfl⟩⟩
theorem fr_X4_1 : g_fr RX4 4 1 := fun C T N h => by cases h; exact ⟨rfl, rfl, _, tyX4_ok 1 (by decide), fun q => ⟨rfl, rfl⟩⟩
theorem fr_X4_2 : g_fr RX4 4 2 := fun C T N h => by cases h; exact ⟨rfl, rfl, _, tyX4_ok 2 (by decide), fun q => ⟨rfl, rfl⟩⟩
theorem fr_X4_3 : g_fr RX4 4 3 := fun C T N h => by cases h; exact ⟨rfl, rfl, _, tyX4_ok 3 (by decide), fun q => ⟨rfl, rfl⟩⟩
theorem fr_X4_4 : g_fr RX4 4 4 := fun C T N h => by cases h; exact ⟨rfl, rfl, _, tyX4_ok 4 (by decide), fun q => ⟨rfl, rfl⟩⟩
theorem fr_X5_0 : g_fr RX5 5 0 := fun C T N h => by cases h; exact ⟨rfl, rfl, _, tyX5_ok 0 (by decide), fun q => ⟨rfl, rfl⟩⟩
theorem fr_X5_1 : g_fr RX5 5 1 := fun C T N h => by cases h; exact ⟨rfl, rfl, _, tyX5_ok 1 (by decide), fun q => ⟨rfl, rfl⟩⟩
theorem fr_X5_2 : g_fr RX5 5 2 := fun C T N h => by cases h; exact ⟨rfl, rfl, _, tyX5_ok 2 (by decide), fun q => ⟨rfl, rfl⟩⟩
theorem fr_X5_3 : g_fr RX5 5 3 := fun C T N h => by cases h; exact ⟨rfl, rfl, _, tyX5_ok 3 (by decide), fun q => ⟨rfl, rfl⟩⟩
theorem fr_X6_0 : g_fr RX6 6 0 := fun C T N h => by cases h; exact ⟨rfl, rfl, _, tyX6_ok 0 (by decide), fun q => ⟨rfl, rfl⟩⟩
theorem fr_X6_1 : g_fr RX6 6 1 := fun C T N h => by cases h; exact ⟨rfl, rfl, _, tyX6_ok 1 (by decide), fun q => ⟨rfl, rfl⟩⟩
theorem fr_X6_2 : g_fr RX6 6 2 := fun C T N h => by cases h; exact ⟨rfl, rfl, _, tyX6_ok 2 (by decide), fun q => ⟨rfl, rfl⟩⟩
theorem fr_X7_0 : g_fr RX7 7 0 := fun C T N h => by cases h; exact ⟨rfl, rfl, _, tyX7_ok 0 (by decide), fun q => ⟨rfl, rfl⟩⟩
theorem fr_X7_1 : g_fr RX7 7 1 := fun C T N h => by cases h; exact ⟨rfl, rfl, _, tyX7_ok 1 (by decide), fun q => ⟨rfl, rfl⟩⟩
theorem fr_X7_2 : g_fr RX7 7 2 := fun C T N h => by cases h; exact ⟨rfl, rfl, _, tyX7_ok 2 (by decide), fun q => ⟨rfl, rfl⟩⟩
theorem fr_X7_3 : g_fr RX7 7 3 := fun C T N h => by cases h; exact ⟨rfl, rfl, _, tyX7_ok 3 (by decide), fun q => ⟨rfl, rfl⟩⟩
theorem fr_X7_4 : g_fr RX7 7 4 := fun C T N h => by cases h; exact ⟨rfl, rfl, _, tyX7_ok 4 (by decide), fun q => ⟨rfl, rfl⟩⟩
theorem fr_X7_5 : g_fr RX7 7 5 := fun C T N h => by cases h; exact ⟨rfl, rfl, _, tyX7_ok 5 (by decide), fun q => ⟨rfl, rfl⟩⟩
theorem fr_X7_6 : g_fr RX7 7 6 := fun C T N h => by cases h; exact ⟨rfl, rfl, _, tyX7_ok 6 (by decide), fun q => ⟨rfl, rfl⟩⟩
theorem fr_X7_7 : g_fr RX7 7 7 := fun C T N h => by cases h; exact ⟨rfl, rfl, _, tyX7_ok 7 (by decide), fun q => ⟨rfl, rfl⟩⟩
theorem fr_X8_0 : g_fr RX8 8 0 := fun C T N h => by cases h; exact ⟨rfl, rfl, _, tyX8_ok 0 (by decide), fun q => ⟨rfl, rfl⟩⟩
theorem fr_X8_1 : g_fr RX8 8 1 := fun C T N h => by cases h; exact ⟨rfl, rfl, _, tyX8_ok 1 (by decide), fun q => ⟨rfl, rfl⟩⟩
theorem fr_X8_2 : g_fr RX8 8 2 := fun C T N h => by cases h; exact ⟨rfl, rfl, _, tyX8_ok 2 (by decide), fun q => ⟨rfl, rfl⟩⟩
theorem fr_X8_3 : g_fr RX8 8 3 := fun C T N h => by cases h; exact ⟨rfl, rfl, _, tyX8_ok 3 (by decide), fun q => ⟨rfl, rfl⟩⟩
theorem fr_X9_0 : g_fr RX9 9 0 := fun C T N h => by cases h; exact ⟨rfl, rfl, _, tyX9_ok 0 (by decide), fun q => ⟨rfl, rfl⟩⟩
theorem fr_X9_1 : g_fr RX9 9 1 := fun C T N h => by cases h; exact ⟨rfl, rfl, _, tyX9_ok 1 (by decide), fun q => ⟨rfl, rfl⟩⟩
