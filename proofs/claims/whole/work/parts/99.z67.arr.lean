/-! The instructions of X on arrays, statics, texts and new cells. -/
section XArr
variable {p : Program} {l : Launch} {e : Env} {R : Room} {s : State} {m : MethodId} {args : Array Value} {below : List Frame} {meth : Method} {c : Code} {Q : State → Prop} {D : va_G} {cA : Nat → ClassId} {A : Nat → Prop} {sv : Value} {adc : Nat → Nat} {own : Nat} {cc : ByteArray} {nL : Nat} {nm : MethodName} {bC bS : Nat} {pc : Nat}
theorem sn_iaload {K : XK} (C : xCx p s m args meth c D cA A sv adc own cc nL nm) (hsc : xSc K adc A s) (hd : decode cc pc = .ok (.iaload, 1)) : xStep p l e R s m args below meth c Q D cA A sv adc nL bC bS K .iaload pc 1 := by
  obtain ⟨hx, hb, hml, hown, hts, hK, hA, hE, hin⟩ := C
  intro ls st σ ls' st' σ' ad H locs lsA h hW hl hB kk
  unfold xone at h
  dsimp only at h
  split at h
  · rename_i i a r
    split at h
    · rename_i ci n rs hS
      split at h
      · rename_i hc
        obtain ⟨h1, h2⟩ := hc
        subst h1
        cases h
        have hcell := xws_at (ad := ad) (cA := cA) hS
        rw [xcell_i (x := (20, n, rs)) (Or.inl rfl)] at hcell
        exact va_iald hx hb hK hW.1 a 0 hcell rfl (xin_vp h2) hd (kk ad H locs lsA hW (fun _ _ => rfl) hl)
      · cases h
    · split at h
      · rename_i n f hf
        split at h
        · rename_i h2
          cases h
          unfold xci at hf
          have hE' := xEnv.ad (ad' := ad) hE (fun a h => hW.2.2.2 a h)
          split at hf
          · rename_i ha
            split at hf
            · cases hf
            · rename_i hz
              cases hf; subst ha
              rcases hsc with z | ⟨z1, z2, z3⟩
              · exact absurd z hz
              · have e : ad 1000000 = adc 1000000 := hW.2.2.2 _ (Nat.le_refl _)
                have := va_sld (b := adc 1000000) (rest := List.map (xre ad sv) r) (ls := lsA) hx hb z1 z2 z3 hW.2.2.1 (xin_vp h2) hd (kk ad H locs lsA hW (fun _ _ => rfl) hl)
                rw [← e] at this
                exact this
          · split at hf
            · rename_i ha
              cases hf; subst ha
              exact va_ti hx hb hE'.1.2 hW.2.2.1 (xin_vp h2) rfl hd (kk ad H locs lsA hW (fun _ _ => rfl) hl)
            · split at hf
              · rename_i ha
                cases hf; subst ha
                exact va_ti hx hb hE'.2.1.2 hW.2.2.1 (xin_vp h2) rfl hd (kk ad H locs lsA hW (fun _ _ => rfl) hl)
              · cases hf
        · cases h
      · cases h
  · cases h
theorem sn_iastore {K : XK} (C : xCx p s m args meth c D cA A sv adc own cc nL nm) (hd : decode cc pc = .ok (.iastore, 1)) : xStep p l e R s m args below meth c Q D cA A sv adc nL bC bS K .iastore pc 1 := by
  obtain ⟨hx, hb, hml, hown, hts, hK, hA, hE, hin⟩ := C
  intro ls st σ ls' st' σ' ad H locs lsA h hW hl hB kk
  unfold xone at h
  dsimp only at h
  split at h
  · rename_i v i a r
    split at h
    · rename_i ci n rs hS
      split at h
      · rename_i hc
        obtain ⟨h1, h2⟩ := hc
        subst h1
        cases h
        have hcell := xws_at (ad := ad) (cA := cA) hS
        rw [xcell_i (x := (20, n, rs)) (Or.inl rfl)] at hcell
        refine va_iast hx hb hK hW.1 hW.2.1 hW.2.2.1 a 0 hcell rfl (xin_vp h2) hd (fun H1 locs1 g1 g2 g3 => kk ad H1 locs1 lsA (xWf_at hW (a := a) ?_ (xws_um hS) g1 g2 g3) (fun _ _ => rfl) hl)
        rw [xcell_i (x := (20, n, rs)) (Or.inl rfl)]
        congr 4
        funext j
        unfold upd um
        by_cases hj : j = i.toNatClampNeg
        · rw [if_pos hj, if_pos ⟨rfl, hj⟩]
        · rw [if_neg hj, if_neg (fun q => hj q.2)]
      · cases h
    · cases h
  · cases h
theorem sn_baload {K : XK} (C : xCx p s m args meth c D cA A sv adc own cc nL nm) (hd : decode cc pc = .ok (.baload, 1)) : xStep p l e R s m args below meth c Q D cA A sv adc nL bC bS K .baload pc 1 := by
  obtain ⟨hx, hb, hml, hown, hts, hK, hA, hE, hin⟩ := C
  intro ls st σ ls' st' σ' ad H locs lsA h hW hl hB kk
  unfold xone at h
  dsimp only at h
  split at h
  · rename_i i a r
    split at h
    · rename_i ci n rs hS
      split at h
      · rename_i hc
        obtain ⟨h1, h2⟩ := hc
        cases h
        have hcell := xws_at (ad := ad) (cA := cA) hS
        rcases h1 with rfl | rfl
        · rw [xcell_i (x := (21, n, rs)) (Or.inr (Or.inl rfl))] at hcell
          exact va_bald hx hb hK hW.1 a 1 hcell rfl (xin_vp h2) hd (kk ad H locs lsA hW (fun _ _ => rfl) hl)
        · rw [xcell_i (x := (22, n, rs)) (Or.inr (Or.inr rfl))] at hcell
          exact va_zald hx hb hK hW.1 a 2 hcell rfl (xin_vp h2) hd (kk ad H locs lsA hW (fun _ _ => rfl) hl)
      · cases h
    · split at h
      · rename_i n f hf
        split at h
        · rename_i h2
          cases h
          unfold xcb at hf
          have hE' := xEnv.ad (ad' := ad) hE (fun a h => hW.2.2.2 a h)
          obtain ⟨-, -, -, -, -, hs, -⟩ := hE'
          split at hf
          · rename_i ha
            obtain ⟨j, hj⟩ := Nat.exists_eq_add_of_le ha
            subst hj
            rw [Nat.add_sub_cancel_left] at hf
            cases hz : xstr[j]? with
            | none => rw [hz] at hf; cases hf
            | some w =>
              rw [hz] at hf
              cases hf
              have hj : j < 18 := by
                have := (List.getElem?_eq_some_iff.mp hz).1
                exact this
              obtain ⟨-, -, -, g4⟩ := hs.1 _ hj
              have e1 : xlens.getD j 0 = w.length := by
                unfold xlens
                rw [List.getD_eq_getElem?_getD, List.getElem?_map, hz]; rfl
              have e2 : xstr.getD j [] = w := by rw [List.getD_eq_getElem?_getD, hz]; rfl
              rw [e1, e2] at g4
              exact va_tb hx hb g4 hW.2.2.1 (xin_vp h2) rfl hd (kk ad H locs lsA hW (fun _ _ => rfl) hl)
          · cases hf
        · cases h
      · cases h
  · cases h
theorem sn_bastore {K : XK} (C : xCx p s m args meth c D cA A sv adc own cc nL nm) (hd : decode cc pc = .ok (.bastore, 1)) : xStep p l e R s m args below meth c Q D cA A sv adc nL bC bS K .bastore pc 1 := by
  obtain ⟨hx, hb, hml, hown, hts, hK, hA, hE, hin⟩ := C
  intro ls st σ ls' st' σ' ad H locs lsA h hW hl hB kk
  unfold xone at h
  dsimp only at h
  split at h
  · rename_i v i a r
    split at h
    · rename_i ci n rs hS
      have hcell := xws_at (ad := ad) (cA := cA) hS
      split at h
      · rename_i hc
        obtain ⟨h1, h2⟩ := hc
        subst h1
        cases h
        rw [xcell_i (x := (21, n, rs)) (Or.inr (Or.inl rfl))] at hcell
        refine va_bast hx hb hK hW.1 hW.2.1 hW.2.2.1 a 1 hcell rfl (xin_vp h2) hd (fun H1 locs1 g1 g2 g3 => kk ad H1 locs1 lsA (xWf_at hW (a := a) ?_ (xws_um hS) g1 g2 g3) (fun _ _ => rfl) hl)
        rw [xcell_i (x := (21, n, rs)) (Or.inr (Or.inl rfl))]
        congr 4
        funext j
        rw [vp_nar_byte]
        unfold upd um
        by_cases hj : j = i.toNatClampNeg
        · rw [if_pos hj, if_pos ⟨rfl, hj⟩]
        · rw [if_neg hj, if_neg (fun q => hj q.2)]
      · split at h
        · rename_i hc
          obtain ⟨h1, h2, h3⟩ := hc
          subst h1
          cases h
          rw [xcell_i (x := (22, n, rs)) (Or.inr (Or.inr rfl))] at hcell
          refine va_zast hx hb hK hW.1 hW.2.1 hW.2.2.1 a 2 hcell rfl (xin_vp h2) hd (fun H1 locs1 g1 g2 g3 => kk ad H1 locs1 lsA (xWf_at hW (a := a) ?_ (xws_um hS) g1 g2 g3) (fun _ _ => rfl) hl)
          rw [xcell_i (x := (22, n, rs)) (Or.inr (Or.inr rfl))]
          have hv : vp_nar .boolean v = v := by rcases h3 with rfl | rfl <;> decide
          congr 4
          funext j
          rw [hv]
          unfold upd um
          by_cases hj : j = i.toNatClampNeg
          · rw [if_pos hj, if_pos ⟨rfl, hj⟩]
          · rw [if_neg hj, if_neg (fun q => hj q.2)]
        · cases h
    · cases h
  · cases h
theorem sn_aaload {K : XK} (C : xCx p s m args meth c D cA A sv adc own cc nL nm) (hd : decode cc pc = .ok (.aaload, 1)) : xStep p l e R s m args below meth c Q D cA A sv adc nL bC bS K .aaload pc 1 := by
  obtain ⟨hx, hb, hml, hown, hts, hK, hA, hE, hin⟩ := C
  intro ls st σ ls' st' σ' ad H locs lsA h hW hl hB kk
  unfold xone at h
  dsimp only at h
  split at h
  · rename_i i a r
    split at h
    · rename_i ci n rs hS
      split at h
      · rename_i hc
        obtain ⟨h1, h2⟩ := hc
        subst h1
        split at h
        · rename_i b hb9
          cases h
          have hcell := xws_at (ad := ad) (cA := cA) hS
          rw [xcell_q (x := (25, n, rs)) rfl] at hcell
          refine va_aldq hx hb hK hW.1 a 5 hcell rfl (xin_vp h2) hd ?_
          have e9 : rs.getD i.toNatClampNeg none = some b := by rw [List.getD_eq_getElem?_getD, hb9]; rfl
          dsimp only
          rw [e9]
          exact kk ad H locs lsA hW (fun _ _ => rfl) hl
        · cases h
      · cases h
    · cases h
  · cases h
theorem sn_aastore {K : XK} (C : xCx p s m args meth c D cA A sv adc own cc nL nm) (hd : decode cc pc = .ok (.aastore, 1)) : xStep p l e R s m args below meth c Q D cA A sv adc nL bC bS K .aastore pc 1 := by
  obtain ⟨hx, hb, hml, hown, hts, hK, hA, hE, hin⟩ := C
  intro ls st σ ls' st' σ' ad H locs lsA h hW hl hB kk
  unfold xone at h
  dsimp only at h
  split at h
  · rename_i v i a r
    split at h
    · rename_i ci n rs hS
      split at h
      · rename_i cv nv rv hSv
        split at h
        · rename_i hc
          obtain ⟨h1, h2, h3, h4⟩ := hc
          subst h1; subst h3
          cases h
          have hcell := xws_at (ad := ad) (cA := cA) hS
          rw [xcell_q (x := (25, n, rs)) rfl] at hcell
          have hcellv := xws_at (ad := ad) (cA := cA) hSv
          rw [xcell_o (x := (8, nv, rv)) (by show 8 < 12; omega)] at hcellv
          have hz : nC (σ.1.set a (25, n, rs.set i.toNatClampNeg (some v)), σ.2.1, σ.2.2.1, σ.2.2.2) = nC σ := by unfold nC; dsimp only; rw [List.length_set]
          have hz2 : nS (σ.1.set a (25, n, rs.set i.toNatClampNeg (some v)), σ.2.1, σ.2.2.1, σ.2.2.2) = nS σ := by
            unfold nS; dsimp only
            rw [List.map_set]
            congr 2
            have hlt := (List.getElem?_eq_some_iff.mp hS).1
            apply List.ext_getElem?
            intro i
            by_cases hi : i = a
            · subst hi
              rw [List.getElem?_set_self (by simpa using hlt), List.getElem?_map, hS]; rfl
            · rw [List.getElem?_set_ne (Ne.symm hi)]
          rw [hz, hz2] at kk
          refine va_astq hx hb hK hW.1 hW.2.1 hW.2.2.1 a 5 v 8 (r := (RX8, TX8, 9)) hcell rfl hcellv rfl (xin_vp h2) hd (fun H1 locs1 g1 g2 g3 => kk ad H1 locs1 lsA (xWf_at hW (a := a) ?_ (xws_cell hS) g1 g2 g3) (fun _ _ => rfl) hl)
          rw [xcell_q (x := (25, n, rs.set i.toNatClampNeg (some v))) rfl]
          congr 7
          funext j
          unfold va_up
          dsimp only
          have hlt : i.toNatClampNeg < rs.length := by
            have := xin_vp h2
            rw [h4]
            exact Nat.not_le.mp fun q => this (Or.inr q)
          by_cases hj : j = i.toNatClampNeg
          · rw [if_pos hj, hj, List.getD_eq_getElem?_getD, List.getElem?_set_self hlt]; rfl
          · rw [if_neg hj, List.getD_eq_getElem?_getD, List.getD_eq_getElem?_getD, List.getElem?_set_ne (Ne.symm hj)]
        · cases h
      · cases h
    · cases h
  · cases h
theorem vp_01 : vp_in (0 : Int32) 1 := by
  intro q
  rcases q with q | q
  · exact absurd q (by decide)
  · exact absurd q (by decide)
theorem sn_laload {K : XK} (C : xCx p s m args meth c D cA A sv adc own cc nL nm) (hd : decode cc pc = .ok (.laload, 1)) : xStep p l e R s m args below meth c Q D cA A sv adc nL bC bS K .laload pc 1 := by
  obtain ⟨hx, hb, hml, hown, hts, hK, hA, hE, hin⟩ := C
  intro ls st σ ls' st' σ' ad H locs lsA h hW hl hB kk
  unfold xone at h
  dsimp only at h
  split at h
  · rename_i i a r
    split at h
    · rename_i ci n rs hS
      split at h
      · rename_i hc
        obtain ⟨h1, h2, h3⟩ := hc
        subst h1; subst h2; subst h3
        cases h
        have hcell := xws_at (ad := ad) (cA := cA) hS
        rw [xcell_l (x := (23, 1, rs)) rfl] at hcell
        exact va_lald hx hb hK hW.1 a 3 hcell rfl vp_01 hd (kk ad H locs lsA hW (fun _ _ => rfl) hl)
      · cases h
    · cases h
  · cases h
theorem sn_lastore {K : XK} (C : xCx p s m args meth c D cA A sv adc own cc nL nm) (hd : decode cc pc = .ok (.lastore, 1)) : xStep p l e R s m args below meth c Q D cA A sv adc nL bC bS K .lastore pc 1 := by
  obtain ⟨hx, hb, hml, hown, hts, hK, hA, hE, hin⟩ := C
  intro ls st σ ls' st' σ' ad H locs lsA h hW hl hB kk
  unfold xone at h
  dsimp only at h
  split at h
  · rename_i v i a r
    split at h
    · rename_i ci n rs hS
      split at h
      · rename_i hc
        obtain ⟨h1, h2, h3⟩ := hc
        subst h1; subst h2; subst h3
        cases h
        have hcell := xws_at (ad := ad) (cA := cA) hS
        rw [xcell_l (x := (23, 1, rs)) rfl] at hcell
        refine va_last hx hb hK hW.1 hW.2.1 hW.2.2.1 a 3 hcell rfl vp_01 hd (fun H1 locs1 g1 g2 g3 => kk ad H1 locs1 lsA (xWf_at hW (a := a) ?_ (xws_uw hS) g1 g2 g3) (fun _ _ => rfl) hl)
        rw [xcell_l (x := (23, 1, rs)) rfl]
        congr 5
        funext j
        unfold uw
        rw [if_pos (c := a = a) rfl]
        by_cases hj : j = 0
        · subst hj; rfl
        · have e0 : (0 : Int32).toNatClampNeg = 0 := by decide
          rw [if_neg hj]
          show (if j = (0 : Int32).toNatClampNeg then _ else _) = _
          rw [e0, if_neg hj]
          exact if_neg hj
      · cases h
    · cases h
  · cases h
theorem sn_daload {K : XK} (C : xCx p s m args meth c D cA A sv adc own cc nL nm) (hd : decode cc pc = .ok (.daload, 1)) : xStep p l e R s m args below meth c Q D cA A sv adc nL bC bS K .daload pc 1 := by
  obtain ⟨hx, hb, hml, hown, hts, hK, hA, hE, hin⟩ := C
  intro ls st σ ls' st' σ' ad H locs lsA h hW hl hB kk
  unfold xone at h
  dsimp only at h
  split at h
  · rename_i i a r
    split at h
    · rename_i ci n rs hS
      split at h
      · rename_i hc
        obtain ⟨h1, h2, h3⟩ := hc
        subst h1; subst h2; subst h3
        cases h
        have hcell := xws_at (ad := ad) (cA := cA) hS
        rw [xcell_d (x := (24, 1, rs)) rfl] at hcell
        exact va_dald hx hb hK hW.1 a 4 hcell rfl vp_01 hd (kk ad H locs lsA hW (fun _ _ => rfl) hl)
      · cases h
    · cases h
  · cases h
theorem sn_dastore {K : XK} (C : xCx p s m args meth c D cA A sv adc own cc nL nm) (hd : decode cc pc = .ok (.dastore, 1)) : xStep p l e R s m args below meth c Q D cA A sv adc nL bC bS K .dastore pc 1 := by
  obtain ⟨hx, hb, hml, hown, hts, hK, hA, hE, hin⟩ := C
  intro ls st σ ls' st' σ' ad H locs lsA h hW hl hB kk
  unfold xone at h
  dsimp only at h
  split at h
  · rename_i v i a r
    split at h
    · rename_i ci n rs hS
      split at h
      · rename_i hc
        obtain ⟨h1, h2, h3⟩ := hc
        subst h1; subst h2; subst h3
        cases h
        have hcell := xws_at (ad := ad) (cA := cA) hS
        rw [xcell_d (x := (24, 1, rs)) rfl] at hcell
        refine va_dast hx hb hK hW.1 hW.2.1 hW.2.2.1 a 4 hcell rfl vp_01 hd (fun H1 locs1 g1 g2 g3 => kk ad H1 locs1 lsA (xWf_at hW (a := a) ?_ (xws_uw hS) g1 g2 g3) (fun _ _ => rfl) hl)
        rw [xcell_d (x := (24, 1, rs)) rfl]
        congr 7
        funext j
        unfold uw
        rw [if_pos (c := a = a) rfl]
        by_cases hj : j = 0
        · subst hj; rfl
        · have e0 : (0 : Int32).toNatClampNeg = 0 := by decide
          rw [if_neg hj]
          show (if j = (0 : Int32).toNatClampNeg then _ else _) = _
          rw [e0, if_neg hj]
          exact if_neg hj
      · cases h
    · cases h
  · cases h
theorem sn_arraylength {K : XK} (C : xCx p s m args meth c D cA A sv adc own cc nL nm) (hsc : xSc K adc A s) (hd : decode cc pc = .ok (.arraylength, 1)) : xStep p l e R s m args below meth c Q D cA A sv adc nL bC bS K .arraylength pc 1 := by
  obtain ⟨hx, hb, hml, hown, hts, hK, hA, hE, hin⟩ := C
  intro ls st σ ls' st' σ' ad H locs lsA h hW hl hB kk
  unfold xone at h
  dsimp only at h
  split at h
  · rename_i a r
    split at h
    · rename_i ci n rs hS
      split at h
      · rename_i hc
        cases h
        have hcell := xws_at (ad := ad) (cA := cA) hS
        rcases hc with rfl | rfl | rfl | rfl
        · rw [xcell_i (x := (20, n, rs)) (Or.inl rfl)] at hcell
          exact va_alen hx hb hK hW.1 a 0 hcell rfl rfl hd (kk ad H locs lsA hW (fun _ _ => rfl) hl)
        · rw [xcell_i (x := (21, n, rs)) (Or.inr (Or.inl rfl))] at hcell
          exact va_alen hx hb hK hW.1 a 1 hcell rfl rfl hd (kk ad H locs lsA hW (fun _ _ => rfl) hl)
        · rw [xcell_i (x := (22, n, rs)) (Or.inr (Or.inr rfl))] at hcell
          exact va_alen hx hb hK hW.1 a 2 hcell rfl rfl hd (kk ad H locs lsA hW (fun _ _ => rfl) hl)
        · rw [xcell_q (x := (25, n, rs)) rfl] at hcell
          exact va_alen hx hb hK hW.1 a 5 hcell rfl rfl hd (kk ad H locs lsA hW (fun _ _ => rfl) hl)
      · cases h
    · have hE' := xEnv.ad (ad' := ad) hE (fun a h => hW.2.2.2 a h)
      split at h
      · rename_i n f hf
        cases h
        unfold xci at hf
        split at hf
        · rename_i ha
          split at hf
          · cases hf
          · rename_i hz
            cases hf; subst ha
            rcases hsc with z | ⟨z1, z2, z3⟩
            · exact absurd z hz
            · have e : ad 1000000 = adc 1000000 := hW.2.2.2 _ (Nat.le_refl _)
              have := va_slen (b := adc 1000000) (rest := List.map (xre ad sv) r) (ls := lsA) hx hb z1 z2 z3 hW.2.2.1 hd (kk ad H locs lsA hW (fun _ _ => rfl) hl)
              rw [← e] at this
              exact this
        · split at hf
          · rename_i ha
            cases hf; subst ha
            exact va_tlen hx hb hE'.1.2 hW.2.2.1 rfl hd (kk ad H locs lsA hW (fun _ _ => rfl) hl)
          · split at hf
            · rename_i ha
              cases hf; subst ha
              exact va_tlen hx hb hE'.2.1.2 hW.2.2.1 rfl hd (kk ad H locs lsA hW (fun _ _ => rfl) hl)
            · cases hf
      · split at h
        · rename_i n f hf
          cases h
          unfold xcb at hf
          obtain ⟨-, -, -, -, -, hs, -⟩ := hE'
          split at hf
          · rename_i ha
            obtain ⟨j, hj⟩ := Nat.exists_eq_add_of_le ha
            subst hj
            rw [Nat.add_sub_cancel_left] at hf
            cases hz : xstr[j]? with
            | none => rw [hz] at hf; cases hf
            | some w =>
              rw [hz] at hf
              cases hf
              have hj : j < 18 := by
                have := (List.getElem?_eq_some_iff.mp hz).1
                exact this
              obtain ⟨-, -, -, g4⟩ := hs.1 _ hj
              have e1 : xlens.getD j 0 = w.length := by
                unfold xlens
                rw [List.getD_eq_getElem?_getD, List.getElem?_map, hz]; rfl
              rw [e1] at g4
              exact va_tlen hx hb g4 hW.2.2.1 rfl hd (kk ad H locs lsA hW (fun _ _ => rfl) hl)
          · cases hf
        · cases h
  · cases h
theorem sn_ldcs {K : XK} {k j : Nat} (C : xCx p s m args meth c D cA A sv adc own cc nL nm) (hj : (own, k, j) ∈ cpS) (hd : decode cc pc = .ok (.ldc k, 2)) : xStep p l e R s m args below meth c Q D cA A sv adc nL bC bS K (.ldc j) pc 2 := by
  obtain ⟨hx, hb, hml, hown, hts, hK, hA, hE, hin⟩ := C
  intro ls st σ ls' st' σ' ad H locs lsA h hW hl hB kk
  unfold xone at h
  dsimp only at h
  have h := Option.some.inj h
  obtain ⟨e1, h⟩ := Prod.mk.inj h
  obtain ⟨e2, e3⟩ := Prod.mk.inj h
  subst e1; subst e2; subst e3
  have hE' := xEnv.ad (ad' := ad) hE (fun a h => hW.2.2.2 a h)
  obtain ⟨-, -, -, -, -, -, hr, -⟩ := hE'
  have hr := hr _ hj
  dsimp only at hr
  generalize 1000010 + j = a at hr kk
  exact va_ldcS hx hb hown hr hd (kk ad H locs lsA hW (fun _ _ => rfl) hl)
theorem sn_natf {K : XK} {k : Nat} (C : xCx p s m args meth c D cA A sv adc own cc nL nm) (hw : Cond.methodLink (xow own) k (xNt 0) ∈ xWS) (h1 : Cond.native (xNt 0) ∈ xWS) (h2 : Cond.static (xNt 0) ∈ xWS) (h3 : Cond.initialized "java/lang/Float" ∈ xWS) (hR : 1 ≤ R.frames ∧ 30 ≤ R.locals) (hd : decode cc pc = .ok (.invokestatic k, 3)) : xStep p l e R s m args below meth c Q D cA A sv adc nL bC bS K (.invokedynamic 0) pc 3 := by
  obtain ⟨hx, hb, hml, hown, hts, hK, hA, hE, hin⟩ := C
  have hsv := hE.2.2.2.2.2.2.2.2.2.2.2.1
  intro ls st σ ls' st' σ' ad H locs lsA h hW hl hB kk
  unfold xone at h
  dsimp only at h
  split at h
  · split at h
    · rename_i hc
      cases h
      exact vn_f2i hx hb (hml.trans hl.1.symm) hown (hts _ hw) (hts _ h1) (hts _ h2) (hts _ h3) hR.1 (by rw [xcat_re hsv]; have := hR.2; omega) hd (kk ad H locs lsA hW (fun _ _ => rfl) hl)
    · cases h
  · split at h
    · rename_i hc
      exact absurd hc.1 (by decide)
    · cases h
  · cases h
theorem sn_natd {K : XK} {k : Nat} (C : xCx p s m args meth c D cA A sv adc own cc nL nm) (hw : Cond.methodLink (xow own) k (xNt 1) ∈ xWS) (h1 : Cond.native (xNt 1) ∈ xWS) (h2 : Cond.static (xNt 1) ∈ xWS) (h3 : Cond.initialized "java/lang/Double" ∈ xWS) (hR : 1 ≤ R.frames ∧ 30 ≤ R.locals) (hd : decode cc pc = .ok (.invokestatic k, 3)) : xStep p l e R s m args below meth c Q D cA A sv adc nL bC bS K (.invokedynamic 1) pc 3 := by
  obtain ⟨hx, hb, hml, hown, hts, hK, hA, hE, hin⟩ := C
  have hsv := hE.2.2.2.2.2.2.2.2.2.2.2.1
  intro ls st σ ls' st' σ' ad H locs lsA h hW hl hB kk
  unfold xone at h
  dsimp only at h
  split at h
  · split at h
    · rename_i hc
      exact absurd hc.1 (by decide)
    · cases h
  · split at h
    · rename_i hc
      cases h
      exact vn_d2l hx hb (hml.trans hl.1.symm) hown (hts _ hw) (hts _ h1) (hts _ h2) (hts _ h3) hR.1 (by rw [xcat_re hsv]; have := hR.2; omega) hd (kk ad H locs lsA hW (fun _ _ => rfl) hl)
    · cases h
  · cases h
theorem sn_getstatic {K : XK} {g k nest : Nat} (C : xCx p s m args meth c D cA A sv adc own cc nL nm) (hg : g < 5) (hw : if nest = 0 then Cond.fieldLink (xow own) k (xG g).1 (xG g).2.1 (xG g).2.2 ∈ xWS else Cond.fieldLinkNest (xow own) k (xG g).1 (xG g).2.1 (xG g).2.2 "BannerParade" ∈ xNW) (hn : nest = 0 ∨ g < 2) (hd : decode cc pc = .ok (.getstatic k, 3)) : xStep p l e R s m args below meth c Q D cA A sv adc nL bC bS K (.getstatic g) pc 3 := by
  obtain ⟨hx, hb, hml, hown, hts, hK, hA, hE, hin⟩ := C
  intro ls st σ ls' st' σ' ad H locs lsA h hW hl hB kk
  unfold xone at h
  have hE' := xEnv.ad (ad' := ad) hE (fun a h => hW.2.2.2 a h)
  obtain ⟨⟨a1, a2⟩, ⟨b1, b2⟩, c1, d1, e1, f1, g1, i1, j1, k1, l1, m1, n1⟩ := hE'
  have hnest : ∀ {C n d : String} {v : Value}, nest ≠ 0 → (xG g).1 = C → (xG g).2.1 = n → (xG g).2.2 = d → va_Z C n d v A s s.heap → W p l e R s m args below meth c H locs (nC σ - bC) (nS σ - bS) Q (F0 m (pc + 3) lsA (v :: st.map (xre ad sv))) → W p l e R s m args below meth c H locs (nC σ - bC) (nS σ - bS) Q (F0 m pc lsA (st.map (xre ad sv))) := by
    intro C n d v hn0 z1 z2 z3 hz k9
    subst z1; subst z2; subst z3
    rw [if_neg hn0] at hw
    exact va_getsN (ref := (xG g).1) hx hb hz hW.2.2.1 hown (va_Nw.use rfl (k1 _ hw)) (fun _ z => z) hd k9
  have hpl : ∀ {C n d : String} {v : Value}, nest = 0 → (xG g).1 = C → (xG g).2.1 = n → (xG g).2.2 = d → va_Z C n d v A s s.heap → W p l e R s m args below meth c H locs (nC σ - bC) (nS σ - bS) Q (F0 m (pc + 3) lsA (v :: st.map (xre ad sv))) → W p l e R s m args below meth c H locs (nC σ - bC) (nS σ - bS) Q (F0 m pc lsA (st.map (xre ad sv))) := by
    intro C n d v hn0 z1 z2 z3 hz k9
    subst z1; subst z2; subst z3
    rw [if_pos hn0] at hw
    exact va_gets (ref := (xG g).1) hx hb hz hW.2.2.1 hown (hts _ hw) (fun _ z => z) hd k9
  have hboth : ∀ {C n d : String} {v : Value}, (xG g).1 = C → (xG g).2.1 = n → (xG g).2.2 = d → va_Z C n d v A s s.heap → W p l e R s m args below meth c H locs (nC σ - bC) (nS σ - bS) Q (F0 m (pc + 3) lsA (v :: st.map (xre ad sv))) → W p l e R s m args below meth c H locs (nC σ - bC) (nS σ - bS) Q (F0 m pc lsA (st.map (xre ad sv))) := by
    intro C n d v z1 z2 z3 hz k9
    by_cases hn0 : nest = 0
    · exact hpl hn0 z1 z2 z3 hz k9
    · exact hnest hn0 z1 z2 z3 hz k9
  dsimp only at h
  match g, hg with
  | 0, _ => cases h; exact hboth rfl rfl rfl a1 (kk ad H locs lsA hW (fun _ _ => rfl) hl)
  | 1, _ => cases h; exact hboth rfl rfl rfl b1 (kk ad H locs lsA hW (fun _ _ => rfl) hl)
  | 2, _ => cases h; exact hboth rfl rfl rfl c1 (kk ad H locs lsA hW (fun _ _ => rfl) hl)
  | 3, _ => cases h; exact hboth rfl rfl rfl d1 (kk ad H locs lsA hW (fun _ _ => rfl) hl)
  | 4, _ => cases h; exact hboth rfl rfl rfl e1 (kk ad H locs lsA hW (fun _ _ => rfl) hl)
theorem sn_max32 {K : XK} {k : Nat} {bytes : ByteArray} {maxL : Nat} (C : xCx p s m args meth c D cA A sv adc own cc nL nm) (hw : Cond.methodLink (xow own) k (xNt 2) ∈ xWS) (h1 : Cond.code (xNt 2) bytes maxL (some .float) ∈ xWS) (h2 : Cond.static (xNt 2) ∈ xWS) (h3 : Cond.initialized "java/lang/Math" ∈ xWS) (hR : 1 ≤ R.frames ∧ 30 ≤ R.locals) (hm8 : maxL = 2) (hd : decode cc pc = .ok (.invokestatic k, 3)) : xStep p l e R s m args below meth c Q D cA A sv adc nL bC bS K .frem pc 3 := by
  obtain ⟨hx, hb, hml, hown, hts, hK, hA, hE, hin⟩ := C
  have hsv := hE.2.2.2.2.2.2.2.2.2.2.2.1
  subst hm8
  intro ls st σ ls' st' σ' ad H locs lsA h hW hl hB kk
  unfold xone at h
  dsimp only at h
  split at h
  · rename_i z x r
    split at h
    · rename_i hc
      obtain ⟨n1, n2, hcat⟩ := hc
      cases h
      intro T hT X
      have hK2 := NT.Max32.pays (l := l) (R := R) (p := p) (e := e) (below := below) (s := s) (sargs := args) (len := 3) (W := 8) (hts _ h1) (hts _ h2) hR.1 (by have := hR.2; omega)
      obtain ⟨v, vm1, B, hW1, X1, ⟨hB1, hv⟩, st1⟩ := Jvm.LawKit.callS X hx hown (hts _ hw) (hts _ h2) (hts _ h3) (hts _ h1) ⟨by decide, by decide⟩ hK2 (g := F0 m pc lsA (.float z :: .float x :: r.map (xre ad sv))) rfl (hl.1.trans hml.symm) (argsL := [.float x, .float z]) (rest := r.map (xre ad sv)) (fun sig h => by
        have h9 : parseMethodDescriptor (xNt 2).desc = some sig := h
        rw [show parseMethodDescriptor (xNt 2).desc = some { parameters := [.float, .float], returnType := some .float } from NT.mathMax32_desc] at h9
        cases h9; rfl) rfl (lv_room (by rw [xcat_re hsv]; exact hcat)) (by rw [hb]; exact hd) (fun vm1 hW => ⟨(x, z), rfl, n1, n2⟩)
      have hv2 := hv (x, z) ⟨rfl, n1, n2⟩
      subst hB1
      subst hv2
      obtain ⟨t, a1, b1⟩ := kk ad H locs lsA hW (fun _ _ => rfl) hl (T.setVm vm1) hT X1
      exact ⟨t, st1 t a1, b1⟩
    · cases h
  · cases h
end XArr
