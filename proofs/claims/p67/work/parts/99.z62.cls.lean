/-! The classes: what the tables say of each, by its number. -/
theorem zip_in : ∀ (l : List Cond) (is : List Nat), is.length = l.length → ((l.zip is).all fun q => xat q.2 q.1) = true → ∀ w ∈ l, w ∈ xWS
  | [], _, _, _, w, hw => absurd hw List.not_mem_nil
  | a :: l, [], h, _, w, hw => by simp at h
  | a :: l, i :: is, h, h2, w, hw => by
    rw [List.zip_cons_cons, List.all_cons, Bool.and_eq_true] at h2
    rcases List.mem_cons.mp hw with rfl | hw
    · exact xat_in h2.1
    · exact zip_in l is (by simpa using h) h2.2 w hw
theorem xin0 : ∀ w ∈ u_ws RX0 TX0 2, w ∈ xWS := zip_in _ [356, 358] rfl (by decide +kernel)
theorem xis0 : Cond.instantiable RX0 2 ∈ xWS := xat_in (i := 349) (by decide +kernel)
theorem xii0 : Cond.initialized RX0 ∈ xWS := xat_in (i := 22) (by decide +kernel)
theorem xin1 : ∀ w ∈ u_ws RX1 TX1 4, w ∈ xWS := zip_in _ [168, 170, 172, 174] rfl (by decide +kernel)
theorem xis1 : Cond.instantiable RX1 4 ∈ xWS := xat_in (i := 153) (by decide +kernel)
theorem xii1 : Cond.initialized RX1 ∈ xWS := xat_in (i := 17) (by decide +kernel)
theorem xin2 : ∀ w ∈ u_ws RX2 TX2 5, w ∈ xWS := zip_in _ [316, 318, 320, 322, 324] rfl (by decide +kernel)
theorem xis2 : Cond.instantiable RX2 5 ∈ xWS := xat_in (i := 301) (by decide +kernel)
theorem xii2 : Cond.initialized RX2 ∈ xWS := xat_in (i := 20) (by decide +kernel)
theorem xin3 : ∀ w ∈ u_ws RX3 TX3 5, w ∈ xWS := zip_in _ [285, 287, 289, 291, 293] rfl (by decide +kernel)
theorem xis3 : Cond.instantiable RX3 5 ∈ xWS := xat_in (i := 57) (by decide +kernel)
theorem xii3 : Cond.initialized RX3 ∈ xWS := xat_in (i := 13) (by decide +kernel)
theorem xin4 : ∀ w ∈ u_ws RX4 TX4 4, w ∈ xWS := zip_in _ [196, 198, 200, 202] rfl (by decide +kernel)
theorem xis4 : Cond.instantiable RX4 4 ∈ xWS := xat_in (i := 178) (by decide +kernel)
theorem xii4 : Cond.initialized RX4 ∈ xWS := xat_in (i := 18) (by decide +kernel)
theorem xin5 : ∀ w ∈ u_ws RX5 TX5 4, w ∈ xWS := zip_in _ [339, 341, 343, 345] rfl (by decide +kernel)
theorem xis5 : Cond.instantiable RX5 4 ∈ xWS := xat_in (i := 329) (by decide +kernel)
theorem xii5 : Cond.initialized RX5 ∈ xWS := xat_in (i := 21) (by decide +kernel)
theorem xin6 : ∀ w ∈ u_ws RX6 TX6 5, w ∈ xWS := zip_in _ [266, 268, 270, 272, 274] rfl (by decide +kernel)
theorem xis6 : Cond.instantiable RX6 5 ∈ xWS := xat_in (i := 248) (by decide +kernel)
theorem xii6 : Cond.initialized RX6 ∈ xWS := xat_in (i := 19) (by decide +kernel)
theorem xin7 : ∀ w ∈ u_ws RX7 TX7 9, w ∈ xWS := zip_in _ [133, 135, 137, 139, 141, 143, 145, 147, 149] rfl (by decide +kernel)
theorem xis7 : Cond.instantiable RX7 9 ∈ xWS := xat_in (i := 102) (by decide +kernel)
theorem xii7 : Cond.initialized RX7 ∈ xWS := xat_in (i := 16) (by decide +kernel)
theorem xin8 : ∀ w ∈ u_ws RX8 TX8 9, w ∈ xWS := zip_in _ [228, 230, 232, 234, 236, 238, 240, 242, 244] rfl (by decide +kernel)
theorem xis8 : Cond.instantiable RX8 9 ∈ xWS := xat_in (i := 96) (by decide +kernel)
theorem xii8 : Cond.initialized RX8 ∈ xWS := xat_in (i := 15) (by decide +kernel)
theorem xin9 : ∀ w ∈ u_ws RX9 TX9 7, w ∈ xWS := zip_in _ [79, 81, 83, 85, 87, 89, 91] rfl (by decide +kernel)
theorem xis9 : Cond.instantiable RX9 7 ∈ xWS := xat_in (i := 63) (by decide +kernel)
theorem xii9 : Cond.initialized RX9 ∈ xWS := xat_in (i := 14) (by decide +kernel)
theorem xin10 : ∀ w ∈ u_ws RX10 TX10 8, w ∈ xWS := zip_in _ [369, 371, 373, 375, 377, 379, 381, 383] rfl (by decide +kernel)
theorem xis10 : Cond.instantiable RX10 8 ∈ xWS := xat_in (i := 49) (by decide +kernel)
theorem xii10 : Cond.initialized RX10 ∈ xWS := xat_in (i := 12) (by decide +kernel)
theorem xin11 : ∀ w ∈ u_ws RX11 TX11 24, w ∈ xWS := zip_in _ [863, 865, 867, 869, 871, 873, 875, 877, 879, 881, 883, 885, 887, 889, 891, 893, 895, 897, 899, 901, 903, 905, 907, 909] rfl (by decide +kernel)
theorem xis11 : Cond.instantiable RX11 24 ∈ xWS := xat_in (i := 801) (by decide +kernel)
theorem xii11 : Cond.initialized RX11 ∈ xWS := xat_in (i := 23) (by decide +kernel)
theorem xin12 : ∀ w ∈ u_ws RJ4 TJ4 4, w ∈ xWS := zip_in _ [937, 939, 941, 943] rfl (by decide +kernel)
theorem xis12 : Cond.instantiable RJ4 4 ∈ xWS := xat_in (i := 916) (by decide +kernel)
theorem xii12 : Cond.initialized RJ4 ∈ xWS := xat_in (i := 29) (by decide +kernel)
theorem xin13 : ∀ w ∈ u_ws RJx4a65c TJx4a65c 3, w ∈ xWS := zip_in _ [828, 824, 826] rfl (by decide +kernel)
theorem xis13 : Cond.instantiable RJx4a65c 3 ∈ xWS := xat_in (i := 809) (by decide +kernel)
theorem xii13 : Cond.initialized RJx4a65c ∈ xWS := xat_in (i := 26) (by decide +kernel)
theorem xin14 : ∀ w ∈ u_ws RJ0 TJ0 4, w ∈ xWS := zip_in _ [1087, 1089, 1091, 1093] rfl (by decide +kernel)
theorem xis14 : Cond.instantiable RJ0 4 ∈ xWS := xat_in (i := 1040) (by decide +kernel)
theorem xii14 : Cond.initialized RJ0 ∈ xWS := xat_in (i := 30) (by decide +kernel)
def xfT (c k : Nat) (t : FieldType) : Prop := if xref c k then defaultValue t = .null ∧ (∀ v, narrow t v = v) ∧ (∀ a, fits t (.ref a) = true) else defaultValue t = .int 0 ∧ ∀ v : Int32, (xbl c k = false ∨ v = 0 ∨ v = 1) → narrow t (.int v) = .int v ∧ fits t (.int v) = true
theorem xfT_i {c k : Nat} {t : FieldType} (h : t = .int) (hr : xref c k = false) : xfT c k t := by
  subst h; unfold xfT; rw [hr]; exact ⟨rfl, fun v _ => ⟨rfl, rfl⟩⟩
theorem xfT_b {c k : Nat} {t : FieldType} (h : t = .boolean) (hr : xref c k = false) (hb : xbl c k = true) : xfT c k t := by
  subst h; unfold xfT; rw [hr]
  refine ⟨rfl, fun v hv => ?_⟩
  rw [hb] at hv
  rcases hv with q | rfl | rfl
  · cases q
  · exact ⟨by decide, by decide⟩
  · exact ⟨by decide, by decide⟩
theorem xfT_y {c k : Nat} {t : FieldType} (h : t = .byte) (hr : xref c k = false) (hb : xbl c k = true) : xfT c k t := by
  subst h; unfold xfT; rw [hr]
  refine ⟨rfl, fun v hv => ?_⟩
  rw [hb] at hv
  rcases hv with q | rfl | rfl
  · cases q
  · exact ⟨by decide, by decide⟩
  · exact ⟨by decide, by decide⟩
theorem xfT_o {c k : Nat} {t : FieldType} {C : String} (h : t = .object C) (hr : xref c k = true) : xfT c k t := by
  subst h; unfold xfT; rw [hr]; exact ⟨rfl, fun v => rfl, fun v => rfl⟩
theorem xfT_a {c k : Nat} {t u : FieldType} (h : t = .array u) (hr : xref c k = true) : xfT c k t := by
  subst h; unfold xfT; rw [hr]; exact ⟨rfl, fun v => rfl, fun v => rfl⟩
/-- what a component's number gives -/
def xcl (c : Nat) (C : String) (T : u_T) (N : Nat) (ty : Nat → FieldType) : Prop :=
  vwCl[c]? = some (C, T, N) ∧ C = xow c ∧ N = xnf.getD c 0 ∧ (∀ w ∈ u_ws C T N, w ∈ xWS) ∧ Cond.instantiable C N ∈ xWS ∧ Cond.initialized C ∈ xWS ∧ (∀ k, k < N → parseFieldDescriptor (T k).2.2.1 = some (ty k)) ∧
  (∀ a, a < N → ∀ b, b < N → a ≠ b → (T a).2.1 ≠ (T b).2.1) ∧ (c < 12 → ∀ k, k < N → (T k).1 = C) ∧ ∀ k, k < N → xfT c k (ty k)
theorem xcl0 : xcl 0 RX0 TX0 2 tyX0 := by
  refine ⟨rfl, rfl, rfl, xin0, xis0, xii0, tyX0_ok, nmX0, ?_, ?_⟩
  · intro _ k hk
    match k, hk with
    | 0, _ => rfl
    | 1, _ => rfl
    | k + 2, hk => exact absurd hk (by omega)
  · intro k hk
    match k, hk with
    | 0, _ => exact xfT_i rfl rfl
    | 1, _ => exact xfT_a rfl rfl
    | k + 2, hk => exact absurd hk (by omega)
theorem xcl1 : xcl 1 RX1 TX1 4 tyX1 := by
  refine ⟨rfl, rfl, rfl, xin1, xis1, xii1, tyX1_ok, nmX1, ?_, ?_⟩
  · intro _ k hk
    match k, hk with
    | 0, _ => rfl
    | 1, _ => rfl
    | 2, _ => rfl
    | 3, _ => rfl
    | k + 4, hk => exact absurd hk (by omega)
  · intro k hk
    match k, hk with
    | 0, _ => exact xfT_i rfl rfl
    | 1, _ => exact xfT_a rfl rfl
    | 2, _ => exact xfT_a rfl rfl
    | 3, _ => exact xfT_a rfl rfl
    | k + 4, hk => exact absurd hk (by omega)
theorem xcl2 : xcl 2 RX2 TX2 5 tyX2 := by
  refine ⟨rfl, rfl, rfl, xin2, xis2, xii2, tyX2_ok, nmX2, ?_, ?_⟩
  · intro _ k hk
    match k, hk with
    | 0, _ => rfl
    | 1, _ => rfl
    | 2, _ => rfl
    | 3, _ => rfl
    | 4, _ => rfl
    | k + 5, hk => exact absurd hk (by omega)
  · intro k hk
    match k, hk with
    | 0, _ => exact xfT_i rfl rfl
    | 1, _ => exact xfT_i rfl rfl
    | 2, _ => exact xfT_a rfl rfl
    | 3, _ => exact xfT_a rfl rfl
    | 4, _ => exact xfT_a rfl rfl
    | k + 5, hk => exact absurd hk (by omega)
theorem xcl3 : xcl 3 RX3 TX3 5 tyX3 := by
  refine ⟨rfl, rfl, rfl, xin3, xis3, xii3, tyX3_ok, nmX3, ?_, ?_⟩
  · intro _ k hk
    match k, hk with
    | 0, _ => rfl
    | 1, _ => rfl
    | 2, _ => rfl
    | 3, _ => rfl
    | 4, _ => rfl
    | k + 5, hk => exact absurd hk (by omega)
  · intro k hk
    match k, hk with
    | 0, _ => exact xfT_o rfl rfl
    | 1, _ => exact xfT_o rfl rfl
    | 2, _ => exact xfT_o rfl rfl
    | 3, _ => exact xfT_i rfl rfl
    | 4, _ => exact xfT_i rfl rfl
    | k + 5, hk => exact absurd hk (by omega)
theorem xcl4 : xcl 4 RX4 TX4 4 tyX4 := by
  refine ⟨rfl, rfl, rfl, xin4, xis4, xii4, tyX4_ok, nmX4, ?_, ?_⟩
  · intro _ k hk
    match k, hk with
    | 0, _ => rfl
    | 1, _ => rfl
    | 2, _ => rfl
    | 3, _ => rfl
    | k + 4, hk => exact absurd hk (by omega)
  · intro k hk
    match k, hk with
    | 0, _ => exact xfT_i rfl rfl
    | 1, _ => exact xfT_a rfl rfl
    | 2, _ => exact xfT_a rfl rfl
    | 3, _ => exact xfT_a rfl rfl
    | k + 4, hk => exact absurd hk (by omega)
theorem xcl5 : xcl 5 RX5 TX5 4 tyX5 := by
  refine ⟨rfl, rfl, rfl, xin5, xis5, xii5, tyX5_ok, nmX5, ?_, ?_⟩
  · intro _ k hk
    match k, hk with
    | 0, _ => rfl
    | 1, _ => rfl
    | 2, _ => rfl
    | 3, _ => rfl
    | k + 4, hk => exact absurd hk (by omega)
  · intro k hk
    match k, hk with
    | 0, _ => exact xfT_i rfl rfl
    | 1, _ => exact xfT_i rfl rfl
    | 2, _ => exact xfT_a rfl rfl
    | 3, _ => exact xfT_a rfl rfl
    | k + 4, hk => exact absurd hk (by omega)
theorem xcl6 : xcl 6 RX6 TX6 5 tyX6 := by
  refine ⟨rfl, rfl, rfl, xin6, xis6, xii6, tyX6_ok, nmX6, ?_, ?_⟩
  · intro _ k hk
    match k, hk with
    | 0, _ => rfl
    | 1, _ => rfl
    | 2, _ => rfl
    | 3, _ => rfl
    | 4, _ => rfl
    | k + 5, hk => exact absurd hk (by omega)
  · intro k hk
    match k, hk with
    | 0, _ => exact xfT_i rfl rfl
    | 1, _ => exact xfT_a rfl rfl
    | 2, _ => exact xfT_a rfl rfl
    | 3, _ => exact xfT_a rfl rfl
    | 4, _ => exact xfT_a rfl rfl
    | k + 5, hk => exact absurd hk (by omega)
theorem xcl7 : xcl 7 RX7 TX7 9 tyX7 := by
  refine ⟨rfl, rfl, rfl, xin7, xis7, xii7, tyX7_ok, nmX7, ?_, ?_⟩
  · intro _ k hk
    match k, hk with
    | 0, _ => rfl
    | 1, _ => rfl
    | 2, _ => rfl
    | 3, _ => rfl
    | 4, _ => rfl
    | 5, _ => rfl
    | 6, _ => rfl
    | 7, _ => rfl
    | 8, _ => rfl
    | k + 9, hk => exact absurd hk (by omega)
  · intro k hk
    match k, hk with
    | 0, _ => exact xfT_i rfl rfl
    | 1, _ => exact xfT_a rfl rfl
    | 2, _ => exact xfT_a rfl rfl
    | 3, _ => exact xfT_a rfl rfl
    | 4, _ => exact xfT_a rfl rfl
    | 5, _ => exact xfT_a rfl rfl
    | 6, _ => exact xfT_a rfl rfl
    | 7, _ => exact xfT_a rfl rfl
    | 8, _ => exact xfT_a rfl rfl
    | k + 9, hk => exact absurd hk (by omega)
theorem xcl8 : xcl 8 RX8 TX8 9 tyX8 := by
  refine ⟨rfl, rfl, rfl, xin8, xis8, xii8, tyX8_ok, nmX8, ?_, ?_⟩
  · intro _ k hk
    match k, hk with
    | 0, _ => rfl
    | 1, _ => rfl
    | 2, _ => rfl
    | 3, _ => rfl
    | 4, _ => rfl
    | 5, _ => rfl
    | 6, _ => rfl
    | 7, _ => rfl
    | 8, _ => rfl
    | k + 9, hk => exact absurd hk (by omega)
  · intro k hk
    match k, hk with
    | 0, _ => exact xfT_i rfl rfl
    | 1, _ => exact xfT_i rfl rfl
    | 2, _ => exact xfT_i rfl rfl
    | 3, _ => exact xfT_i rfl rfl
    | 4, _ => exact xfT_a rfl rfl
    | 5, _ => exact xfT_a rfl rfl
    | 6, _ => exact xfT_o rfl rfl
    | 7, _ => exact xfT_o rfl rfl
    | 8, _ => exact xfT_o rfl rfl
    | k + 9, hk => exact absurd hk (by omega)
theorem xcl9 : xcl 9 RX9 TX9 7 tyX9 := by
  refine ⟨rfl, rfl, rfl, xin9, xis9, xii9, tyX9_ok, nmX9, ?_, ?_⟩
  · intro _ k hk
    match k, hk with
    | 0, _ => rfl
    | 1, _ => rfl
    | 2, _ => rfl
    | 3, _ => rfl
    | 4, _ => rfl
    | 5, _ => rfl
    | 6, _ => rfl
    | k + 7, hk => exact absurd hk (by omega)
  · intro k hk
    match k, hk with
    | 0, _ => exact xfT_a rfl rfl
    | 1, _ => exact xfT_i rfl rfl
    | 2, _ => exact xfT_i rfl rfl
    | 3, _ => exact xfT_i rfl rfl
    | 4, _ => exact xfT_i rfl rfl
    | 5, _ => exact xfT_i rfl rfl
    | 6, _ => exact xfT_i rfl rfl
    | k + 7, hk => exact absurd hk (by omega)
theorem xcl10 : xcl 10 RX10 TX10 8 tyX10 := by
  refine ⟨rfl, rfl, rfl, xin10, xis10, xii10, tyX10_ok, nmX10, ?_, ?_⟩
  · intro _ k hk
    match k, hk with
    | 0, _ => rfl
    | 1, _ => rfl
    | 2, _ => rfl
    | 3, _ => rfl
    | 4, _ => rfl
    | 5, _ => rfl
    | 6, _ => rfl
    | 7, _ => rfl
    | k + 8, hk => exact absurd hk (by omega)
  · intro k hk
    match k, hk with
    | 0, _ => exact xfT_o rfl rfl
    | 1, _ => exact xfT_o rfl rfl
    | 2, _ => exact xfT_o rfl rfl
    | 3, _ => exact xfT_o rfl rfl
    | 4, _ => exact xfT_o rfl rfl
    | 5, _ => exact xfT_o rfl rfl
    | 6, _ => exact xfT_o rfl rfl
    | 7, _ => exact xfT_b rfl rfl rfl
    | k + 8, hk => exact absurd hk (by omega)
theorem xcl11 : xcl 11 RX11 TX11 24 tyX11 := by
  refine ⟨rfl, rfl, rfl, xin11, xis11, xii11, tyX11_ok, nmX11, ?_, ?_⟩
  · intro _ k hk
    match k, hk with
    | 0, _ => rfl
    | 1, _ => rfl
    | 2, _ => rfl
    | 3, _ => rfl
    | 4, _ => rfl
    | 5, _ => rfl
    | 6, _ => rfl
    | 7, _ => rfl
    | 8, _ => rfl
    | 9, _ => rfl
    | 10, _ => rfl
    | 11, _ => rfl
    | 12, _ => rfl
    | 13, _ => rfl
    | 14, _ => rfl
    | 15, _ => rfl
    | 16, _ => rfl
    | 17, _ => rfl
    | 18, _ => rfl
    | 19, _ => rfl
    | 20, _ => rfl
    | 21, _ => rfl
    | 22, _ => rfl
    | 23, _ => rfl
    | k + 24, hk => exact absurd hk (by omega)
  · intro k hk
    match k, hk with
    | 0, _ => exact xfT_a rfl rfl
    | 1, _ => exact xfT_a rfl rfl
    | 2, _ => exact xfT_a rfl rfl
    | 3, _ => exact xfT_a rfl rfl
    | 4, _ => exact xfT_a rfl rfl
    | 5, _ => exact xfT_a rfl rfl
    | 6, _ => exact xfT_a rfl rfl
    | 7, _ => exact xfT_a rfl rfl
    | 8, _ => exact xfT_a rfl rfl
    | 9, _ => exact xfT_a rfl rfl
    | 10, _ => exact xfT_a rfl rfl
    | 11, _ => exact xfT_a rfl rfl
    | 12, _ => exact xfT_a rfl rfl
    | 13, _ => exact xfT_a rfl rfl
    | 14, _ => exact xfT_a rfl rfl
    | 15, _ => exact xfT_o rfl rfl
    | 16, _ => exact xfT_i rfl rfl
    | 17, _ => exact xfT_i rfl rfl
    | 18, _ => exact xfT_i rfl rfl
    | 19, _ => exact xfT_i rfl rfl
    | 20, _ => exact xfT_i rfl rfl
    | 21, _ => exact xfT_i rfl rfl
    | 22, _ => exact xfT_i rfl rfl
    | 23, _ => exact xfT_i rfl rfl
    | k + 24, hk => exact absurd hk (by omega)
theorem xcl12 : xcl 12 RJ4 TJ4 4 tyJ4 := by
  refine ⟨rfl, rfl, rfl, xin12, xis12, xii12, tyJ4_ok, nmJ4, ?_, ?_⟩
  · intro h; exact absurd h (by omega)
  · intro k hk
    match k, hk with
    | 0, _ => exact xfT_a rfl rfl
    | 1, _ => exact xfT_y rfl rfl rfl
    | 2, _ => exact xfT_b rfl rfl rfl
    | 3, _ => exact xfT_i rfl rfl
    | k + 4, hk => exact absurd hk (by omega)
theorem xcl13 : xcl 13 RJx4a65c TJx4a65c 3 tyJx4a65c := by
  refine ⟨rfl, rfl, rfl, xin13, xis13, xii13, tyJx4a65c_ok, nmJx4a65c, ?_, ?_⟩
  · intro h; exact absurd h (by omega)
  · intro k hk
    match k, hk with
    | 0, _ => exact xfT_i rfl rfl
    | 1, _ => exact xfT_a rfl rfl
    | 2, _ => exact xfT_i rfl rfl
    | k + 3, hk => exact absurd hk (by omega)
theorem xcl14 : xcl 14 RJ0 TJ0 4 tyJ0 := by
  refine ⟨rfl, rfl, rfl, xin14, xis14, xii14, tyJ0_ok, nmJ0, ?_, ?_⟩
  · intro h; exact absurd h (by omega)
  · intro k hk
    match k, hk with
    | 0, _ => exact xfT_a rfl rfl
    | 1, _ => exact xfT_y rfl rfl rfl
    | 2, _ => exact xfT_i rfl rfl
    | 3, _ => exact xfT_b rfl rfl rfl
    | k + 4, hk => exact absurd hk (by omega)
theorem xcls {c : Nat} (h : c < 15) : ∃ (C : String) (T : u_T) (N : Nat) (ty : Nat → FieldType), xcl c C T N ty := by
  match c, h with
  | 0, _ => exact ⟨_, _, _, _, xcl0⟩
  | 1, _ => exact ⟨_, _, _, _, xcl1⟩
  | 2, _ => exact ⟨_, _, _, _, xcl2⟩
  | 3, _ => exact ⟨_, _, _, _, xcl3⟩
  | 4, _ => exact ⟨_, _, _, _, xcl4⟩
  | 5, _ => exact ⟨_, _, _, _, xcl5⟩
  | 6, _ => exact ⟨_, _, _, _, xcl6⟩
  | 7, _ => exact ⟨_, _, _, _, xcl7⟩
  | 8, _ => exact ⟨_, _, _, _, xcl8⟩
  | 9, _ => exact ⟨_, _, _, _, xcl9⟩
  | 10, _ => exact ⟨_, _, _, _, xcl10⟩
  | 11, _ => exact ⟨_, _, _, _, xcl11⟩
  | 12, _ => exact ⟨_, _, _, _, xcl12⟩
  | 13, _ => exact ⟨_, _, _, _, xcl13⟩
  | 14, _ => exact ⟨_, _, _, _, xcl14⟩
  | c + 15, h => exact absurd h (by omega)
