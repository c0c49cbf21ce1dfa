/-! The instructions of X on arrays, statics, texts and new cells. -/
section XArr
variable {p : Program} {l : Launch} {e : Env} {R : Room} {s : State} {m : MethodId} {args : Array Value} {below : List Frame} {meth : Method} {c : Code} {Q : State → Prop} {D : va_G} {cA : Nat → ClassId} {A : Nat → Prop} {sv : Value} {adc : Nat → Nat} {own : Nat} {cc : ByteArray} {nL : Nat} {nm : MethodName} {bC bS : Nat} {pc : Nat}
/-- the bytes of the constant texts and digits -/
theorem xT_of {ad : Nat → Nat} {sv : Value} {A : Nat → Prop} {s : State} (hE : xEnv ad sv A s s.heap) {a n : Nat} {f : Nat → Int32} (h : xcb a = some (n, f)) : va_T .byte (ad a) n (fun j => .int (f j)) A s s.heap := by
  unfold xcb at h
  split at h
  · rename_i ha
    obtain ⟨j, hj⟩ := Nat.exists_eq_add_of_le ha
    subst hj
    rw [Nat.add_sub_cancel_left] at h
    cases hz : xstr[j]? with
    | none => rw [hz] at h; cases h
    | some w =>
      rw [hz] at h
      cases h
      have e2 : xstr.getD j [] = w := by rw [List.getD_eq_getElem?_getD, hz]; rfl
      obtain ⟨-, -, -, ⟨⟨-, t1⟩, ⟨-, t2⟩, -⟩, -, hs, -⟩ := hE
      have hj20 : j < 20 := by
        have := (List.getElem?_eq_some_iff.mp hz).1
        exact this
      by_cases hj : j < 18
      · obtain ⟨-, -, -, g4⟩ := hs.1 _ hj
        have e1 : xlens.getD j 0 = w.length := by
          unfold xlens
          rw [List.getD_eq_getElem?_getD, List.getElem?_map, hz]; rfl
        rw [e1, e2] at g4
        exact g4
      · by_cases hj8 : j = 18
        · subst hj8
          rw [e2] at t1
          have e1 : w.length = 100 := by rw [← e2]; rfl
          rw [e1]; exact t1
        · have hj9 : j = 19 := by omega
          subst hj9
          rw [e2] at t2
          have e1 : w.length = 100 := by rw [← e2]; rfl
          rw [e1]; exact t2
  · cases h
theorem sn_iaload {K : XK} (C : xCx p s m args meth c D cA A sv adc own cc nL nm) (hsc : xSc K adc A s) (hd : decode cc pc = .ok (.iaload, 1)) : xStep p l e R s m args below meth c Q D cA A sv adc nL bC bS K .iaload pc 1 := by
  obtain ⟨hx, hb, hml, hown, hts, hK, hA, hE, hin⟩ := C
  intro ls st σ ls' st' σ' ad H locs lsA h hW hl hB kk
  unfold xone at h
  dsimp only at h
  split at h
  · rename_i i a r
    split at h
    · rename_i ci n rs hS
      split at h
      · rename_i hc
        obtain ⟨h1, h2⟩ := hc
        subst h1
        cases h
        have hcell := xws_at (ad := ad) (cA := cA) hS
        rw [xcell_i (x := (20, n, rs)) (Or.inl rfl)] at hcell
        exact va_iald hx hb hK hW.1 a 0 hcell rfl (xin_vp h2) hd (kk ad H locs lsA hW (fun _ _ => rfl) hl)
      · cases h
    · split at h
      · rename_i n f hf
        split at h
        · rename_i h2
          cases h
          unfold xci at hf
          have hE' := xEnv.ad (ad' := ad) hE (fun a h => hW.2.2.2 a h)
          split at hf
          · rename_i ha
            split at hf
            · cases hf
            · rename_i hz
              cases hf; subst ha
              rcases hsc with z | ⟨z1, z2, z3⟩
              · exact absurd z hz
              · have e : ad 1000000 = adc 1000000 := hW.2.2.2 _ (Nat.le_refl _)
                have := va_sld (b := adc 1000000) (rest := List.map (xre ad sv) r) (ls := lsA) hx hb z1 z2 z3 hW.2.2.1 (xin_vp h2) hd (kk ad H locs lsA hW (fun _ _ => rfl) hl)
                rw [← e] at this
                exact this
          · split at hf
            · rename_i ha
              cases hf; subst ha
              exact va_ti hx hb hE'.1.2 hW.2.2.1 (xin_vp h2) rfl hd (kk ad H locs lsA hW (fun _ _ => rfl) hl)
            · split at hf
              · rename_i ha
                cases hf; subst ha
                exact va_ti hx hb hE'.2.1.2 hW.2.2.1 (xin_vp h2) rfl hd (kk ad H locs lsA hW (fun _ _ => rfl) hl)
              · cases hf
        · cases h
      · cases h
  · cases h
theorem sn_iastore {K : XK} (C : xCx p s m args meth c D cA A sv adc own cc nL nm) (hd : decode cc pc = .ok (.iastore, 1)) : xStep p l e R s m args below meth c Q D cA A sv adc nL bC bS K .iastore pc 1 := by
  obtain ⟨hx, hb, hml, hown, hts, hK, hA, hE, hin⟩ := C
  intro ls st σ ls' st' σ' ad H locs lsA h hW hl hB kk
  unfold xone at h
  dsimp only at h
  split at h
  · rename_i v i a r
    split at h
    · rename_i ci n rs hS
      split at h
      · rename_i hc
        obtain ⟨h1, h2⟩ := hc
        subst h1
        cases h
        have hcell := xws_at (ad := ad) (cA := cA) hS
        rw [xcell_i (x := (20, n, rs)) (Or.inl rfl)] at hcell
        refine va_iast hx hb hK hW.1 hW.2.1 hW.2.2.1 a 0 hcell rfl (xin_vp h2) hd (fun H1 locs1 g1 g2 g3 => kk ad H1 locs1 lsA (xWf_at hW (a := a) ?_ (xws_um hS) g1 g2 g3) (fun _ _ => rfl) hl)
        rw [xcell_i (x := (20, n, rs)) (Or.inl rfl)]
        congr 4
        funext j
        unfold upd um
        by_cases hj : j = i.toNatClampNeg
        · rw [if_pos hj, if_pos ⟨rfl, hj⟩]
        · rw [if_neg hj, if_neg (fun q => hj q.2)]
      · cases h
    · cases h
  · cases h
theorem sn_baload {K : XK} (C : xCx p s m args meth c D cA A sv adc own cc nL nm) (hd : decode cc pc = .ok (.baload, 1)) : xStep p l e R s m args below meth c Q D cA A sv adc nL bC bS K .baload pc 1 := by
  obtain ⟨hx, hb, hml, hown, hts, hK, hA, hE, hin⟩ := C
  intro ls st σ ls' st' σ' ad H locs lsA h hW hl hB kk
  unfold xone at h
  dsimp only at h
  split at h
  · rename_i i a r
    split at h
    · rename_i ci n rs hS
      split at h
      · rename_i hc
        obtain ⟨h1, h2⟩ := hc
        cases h
        have hcell := xws_at (ad := ad) (cA := cA) hS
        rcases h1 with rfl | rfl
        · rw [xcell_i (x := (21, n, rs)) (Or.inr (Or.inl rfl))] at hcell
          exact va_bald hx hb hK hW.1 a 1 hcell rfl (xin_vp h2) hd (kk ad H locs lsA hW (fun _ _ => rfl) hl)
        · rw [xcell_i (x := (22, n, rs)) (Or.inr (Or.inr rfl))] at hcell
          exact va_zald hx hb hK hW.1 a 2 hcell rfl (xin_vp h2) hd (kk ad H locs lsA hW (fun _ _ => rfl) hl)
      · cases h
    · split at h
      · rename_i n f hf
        split at h
        · rename_i h2
          cases h
          have hE' := xEnv.ad (ad' := ad) hE (fun a h => hW.2.2.2 a h)
          exact va_tb hx hb (xT_of hE' hf) hW.2.2.1 (xin_vp h2) rfl hd (kk ad H locs lsA hW (fun _ _ => rfl) hl)
        · cases h
      · cases h
  · cases h
theorem sn_bastore {K : XK} (C : xCx p s m args meth c D cA A sv adc own cc nL nm) (hd : decode cc pc = .ok (.bastore, 1)) : xStep p l e R s m args below meth c Q D cA A sv adc nL bC bS K .bastore pc 1 := by
  obtain ⟨hx, hb, hml, hown, hts, hK, hA, hE, hin⟩ := C
  intro ls st σ ls' st' σ' ad H locs lsA h hW hl hB kk
  unfold xone at h
  dsimp only at h
  split at h
  · rename_i v i a r
    split at h
    · rename_i ci n rs hS
      have hcell := xws_at (ad := ad) (cA := cA) hS
      split at h
      · rename_i hc
        obtain ⟨h1, h2⟩ := hc
        subst h1
        cases h
        rw [xcell_i (x := (21, n, rs)) (Or.inr (Or.inl rfl))] at hcell
        refine va_bast hx hb hK hW.1 hW.2.1 hW.2.2.1 a 1 hcell rfl (xin_vp h2) hd (fun H1 locs1 g1 g2 g3 => kk ad H1 locs1 lsA (xWf_at hW (a := a) ?_ (xws_um hS) g1 g2 g3) (fun _ _ => rfl) hl)
        rw [xcell_i (x := (21, n, rs)) (Or.inr (Or.inl rfl))]
        congr 4
        funext j
        rw [vp_nar_byte]
        unfold upd um
        by_cases hj : j = i.toNatClampNeg
        · rw [if_pos hj, if_pos ⟨rfl, hj⟩]
        · rw [if_neg hj, if_neg (fun q => hj q.2)]
      · split at h
        · rename_i hc
          obtain ⟨h1, h2, h3⟩ := hc
          subst h1
          cases h
          rw [xcell_i (x := (22, n, rs)) (Or.inr (Or.inr rfl))] at hcell
          refine va_zast hx hb hK hW.1 hW.2.1 hW.2.2.1 a 2 hcell rfl (xin_vp h2) hd (fun H1 locs1 g1 g2 g3 => kk ad H1 locs1 lsA (xWf_at hW (a := a) ?_ (xws_um hS) g1 g2 g3) (fun _ _ => rfl) hl)
          rw [xcell_i (x := (22, n, rs)) (Or.inr (Or.inr rfl))]
          have hv : vp_nar .boolean v = v := by rcases h3 with rfl | rfl <;> decide
          congr 4
          funext j
          rw [hv]
          unfold upd um
          by_cases hj : j = i.toNatClampNeg
          · rw [if_pos hj, if_pos ⟨rfl, hj⟩]
          · rw [if_neg hj, if_neg (fun q => hj q.2)]
        · cases h
    · cases h
  · cases h
theorem sn_aaload {K : XK} (C : xCx p s m args meth c D cA A sv adc own cc nL nm) (hd : decode cc pc = .ok (.aaload, 1)) : xStep p l e R s m args below meth c Q D cA A sv adc nL bC bS K .aaload pc 1 := by
  obtain ⟨hx, hb, hml, hown, hts, hK, hA, hE, hin⟩ := C
  intro ls st σ ls' st' σ' ad H locs lsA h hW hl hB kk
  unfold xone at h
  dsimp only at h
  split at h
  · rename_i i a r
    split at h
    · rename_i ci n rs hS
      split at h
      · rename_i hc
        obtain ⟨h1, h2⟩ := hc
        split at h
        · rename_i b hb9
          cases h
          have hcell := xws_at (ad := ad) (cA := cA) hS
          have e9 : rs.getD i.toNatClampNeg none = some b := by rw [List.getD_eq_getElem?_getD, hb9]; rfl
          rcases h1 with rfl | rfl
          · rw [xcell_q (x := (25, n, rs)) rfl] at hcell
            refine va_aldq hx hb hK hW.1 a 3 hcell rfl (xin_vp h2) hd ?_
            dsimp only
            rw [e9]
            exact kk ad H locs lsA hW (fun _ _ => rfl) hl
          · rw [xcell_s (x := (26, n, rs)) rfl] at hcell
            refine va_aldq hx hb hK hW.1 a 4 hcell rfl (xin_vp h2) hd ?_
            dsimp only
            rw [e9]
            exact kk ad H locs lsA hW (fun _ _ => rfl) hl
        · cases h
      · cases h
    · cases h
  · cases h
theorem sn_aastore {K : XK} (C : xCx p s m args meth c D cA A sv adc own cc nL nm) (hd : decode cc pc = .ok (.aastore, 1)) : xStep p l e R s m args below meth c Q D cA A sv adc nL bC bS K .aastore pc 1 := by
  obtain ⟨hx, hb, hml, hown, hts, hK, hA, hE, hin⟩ := C
  intro ls st σ ls' st' σ' ad H locs lsA h hW hl hB kk
  unfold xone at h
  dsimp only at h
  split at h
  · rename_i v i a r
    split at h
    · rename_i ci n rs hS
      split at h
      · rename_i cv nv rv hSv
        split at h
        · rename_i hc
          obtain ⟨h1, h2, h4⟩ := hc
          cases h
          have hlt : i.toNatClampNeg < rs.length := by
            have := xin_vp h2
            rw [h4]
            exact Nat.not_le.mp fun q => this (Or.inr q)
          have hfun : ∀ (g : Nat → Nat), va_up (fun k => (rs.getD k none).map g) i.toNatClampNeg (some (g v)) = fun k => ((rs.set i.toNatClampNeg (some v)).getD k none).map g := by
            intro g
            funext j
            unfold va_up
            by_cases hj : j = i.toNatClampNeg
            · rw [if_pos hj, hj, List.getD_eq_getElem?_getD, List.getElem?_set_self hlt]; rfl
            · rw [if_neg hj, List.getD_eq_getElem?_getD, List.getElem?_set_ne (Ne.symm hj), ← List.getD_eq_getElem?_getD]
          have hz : nC (σ.1.set a (ci, n, rs.set i.toNatClampNeg (some v)), σ.2.1, σ.2.2.1, σ.2.2.2) = nC σ := by unfold nC; dsimp only; rw [List.length_set]
          have hz2 : nS (σ.1.set a (ci, n, rs.set i.toNatClampNeg (some v)), σ.2.1, σ.2.2.1, σ.2.2.2) = nS σ := by
            unfold nS; dsimp only
            rw [List.map_set]
            congr 2
            have hlt := (List.getElem?_eq_some_iff.mp hS).1
            apply List.ext_getElem?
            intro i
            by_cases hi : i = a
            · subst hi
              rw [List.getElem?_set_self (by simpa using hlt), List.getElem?_map, hS]; rfl
            · rw [List.getElem?_set_ne (Ne.symm hi)]
          rw [hz, hz2] at kk
          have hcell := xws_at (ad := ad) (cA := cA) hS
          have hcellv := xws_at (ad := ad) (cA := cA) hSv
          rcases h1 with ⟨rfl, rfl⟩ | ⟨rfl, rfl⟩
          · rw [xcell_q (x := (25, n, rs)) rfl] at hcell
            rw [xcell_o (x := (8, nv, rv)) (by show 8 < 15; omega)] at hcellv
            refine va_astq hx hb hK hW.1 hW.2.1 hW.2.2.1 a 3 v 8 (r := (RX8, TX8, 9)) hcell rfl hcellv rfl (xin_vp h2) hd (fun H1 locs1 g1 g2 g3 => kk ad H1 locs1 lsA (xWf_at hW (a := a) ?_ (xws_cell hS) g1 g2 g3) (fun _ _ => rfl) hl)
            rw [xcell_q (x := (25, n, rs.set i.toNatClampNeg (some v))) rfl]
            dsimp only
            rw [← hfun ad]
          · rw [xcell_s (x := (26, n, rs)) rfl] at hcell
            rw [xcell_o (x := (14, nv, rv)) (by show 14 < 15; omega)] at hcellv
            refine va_astq hx hb hK hW.1 hW.2.1 hW.2.2.1 a 4 v 14 (r := (RJ0, TJ0, 4)) hcell rfl hcellv rfl (xin_vp h2) hd (fun H1 locs1 g1 g2 g3 => kk ad H1 locs1 lsA (xWf_at hW (a := a) ?_ (xws_cell hS) g1 g2 g3) (fun _ _ => rfl) hl)
            rw [xcell_s (x := (26, n, rs.set i.toNatClampNeg (some v))) rfl]
            dsimp only
            rw [← hfun ad]
        · cases h
      · cases h
    · cases h
  · cases h
theorem sn_arraylength {K : XK} (C : xCx p s m args meth c D cA A sv adc own cc nL nm) (hsc : xSc K adc A s) (hd : decode cc pc = .ok (.arraylength, 1)) : xStep p l e R s m args below meth c Q D cA A sv adc nL bC bS K .arraylength pc 1 := by
  obtain ⟨hx, hb, hml, hown, hts, hK, hA, hE, hin⟩ := C
  intro ls st σ ls' st' σ' ad H locs lsA h hW hl hB kk
  unfold xone at h
  dsimp only at h
  split at h
  · rename_i a r
    split at h
    · rename_i ci n rs hS
      split at h
      · rename_i hc
        cases h
        have hcell := xws_at (ad := ad) (cA := cA) hS
        rcases hc with rfl | rfl | rfl | rfl
        · rw [xcell_i (x := (20, n, rs)) (Or.inl rfl)] at hcell
          exact va_alen hx hb hK hW.1 a 0 hcell rfl rfl hd (kk ad H locs lsA hW (fun _ _ => rfl) hl)
        · rw [xcell_i (x := (21, n, rs)) (Or.inr (Or.inl rfl))] at hcell
          exact va_alen hx hb hK hW.1 a 1 hcell rfl rfl hd (kk ad H locs lsA hW (fun _ _ => rfl) hl)
        · rw [xcell_i (x := (22, n, rs)) (Or.inr (Or.inr rfl))] at hcell
          exact va_alen hx hb hK hW.1 a 2 hcell rfl rfl hd (kk ad H locs lsA hW (fun _ _ => rfl) hl)
        · rw [xcell_q (x := (25, n, rs)) rfl] at hcell
          exact va_alen hx hb hK hW.1 a 3 hcell rfl rfl hd (kk ad H locs lsA hW (fun _ _ => rfl) hl)
      · cases h
    · have hE' := xEnv.ad (ad' := ad) hE (fun a h => hW.2.2.2 a h)
      split at h
      · rename_i n f hf
        cases h
        unfold xci at hf
        split at hf
        · rename_i ha
          split at hf
          · cases hf
          · rename_i hz
            cases hf; subst ha
            rcases hsc with z | ⟨z1, z2, z3⟩
            · exact absurd z hz
            · have e : ad 1000000 = adc 1000000 := hW.2.2.2 _ (Nat.le_refl _)
              have := va_slen (b := adc 1000000) (rest := List.map (xre ad sv) r) (ls := lsA) hx hb z1 z2 z3 hW.2.2.1 hd (kk ad H locs lsA hW (fun _ _ => rfl) hl)
              rw [← e] at this
              exact this
        · split at hf
          · rename_i ha
            cases hf; subst ha
            exact va_tlen hx hb hE'.1.2 hW.2.2.1 rfl hd (kk ad H locs lsA hW (fun _ _ => rfl) hl)
          · split at hf
            · rename_i ha
              cases hf; subst ha
              exact va_tlen hx hb hE'.2.1.2 hW.2.2.1 rfl hd (kk ad H locs lsA hW (fun _ _ => rfl) hl)
            · cases hf
      · split at h
        · rename_i n f hf
          cases h
          exact va_tlen hx hb (xT_of hE' hf) hW.2.2.1 rfl hd (kk ad H locs lsA hW (fun _ _ => rfl) hl)
        · cases h
  · cases h
theorem sn_ldcs {K : XK} {k j : Nat} (C : xCx p s m args meth c D cA A sv adc own cc nL nm) (hj : (own, k, j) ∈ cpS) (hd : decode cc pc = .ok (.ldc k, 2)) : xStep p l e R s m args below meth c Q D cA A sv adc nL bC bS K (.ldc j) pc 2 := by
  obtain ⟨hx, hb, hml, hown, hts, hK, hA, hE, hin⟩ := C
  intro ls st σ ls' st' σ' ad H locs lsA h hW hl hB kk
  unfold xone at h
  dsimp only at h
  have h := Option.some.inj h
  obtain ⟨e1, h⟩ := Prod.mk.inj h
  obtain ⟨e2, e3⟩ := Prod.mk.inj h
  subst e1; subst e2; subst e3
  have hE' := xEnv.ad (ad' := ad) hE (fun a h => hW.2.2.2 a h)
  obtain ⟨-, -, -, -, -, -, hr, -⟩ := hE'
  have hr := hr _ hj
  dsimp only at hr
  generalize 1000010 + j = a at hr kk
  exact va_ldcS hx hb hown hr hd (kk ad H locs lsA hW (fun _ _ => rfl) hl)
theorem sn_getstatic {K : XK} {g k nest : Nat} (C : xCx p s m args meth c D cA A sv adc own cc nL nm) (hg : g < 12 ∧ g ≠ 3) (hw : if nest = 0 then Cond.fieldLink (xow own) k (xG g).1 (xG g).2.1 (xG g).2.2 ∈ xWS else Cond.fieldLinkNest (xow own) k (xG g).1 (xG g).2.1 (xG g).2.2 "BannerParade" ∈ xNW) (hn : nest = 0 ∨ g < 2) (hd : decode cc pc = .ok (.getstatic k, 3)) : xStep p l e R s m args below meth c Q D cA A sv adc nL bC bS K (.getstatic g) pc 3 := by
  obtain ⟨hx, hb, hml, hown, hts, hK, hA, hE, hin⟩ := C
  intro ls st σ ls' st' σ' ad H locs lsA h hW hl hB kk
  unfold xone at h
  have hE' := xEnv.ad (ad' := ad) hE (fun a h => hW.2.2.2 a h)
  obtain ⟨⟨a1, a2⟩, ⟨b1, b2⟩, c1, ⟨⟨d1, -⟩, ⟨d2, -⟩, d3, d4, -, d5, d6, d7⟩, e1, f1, g1, i1, j1, k1, l1, m1, n1⟩ := hE'
  have hnest : ∀ {C n d : String} {v : Value}, nest ≠ 0 → (xG g).1 = C → (xG g).2.1 = n → (xG g).2.2 = d → va_Z C n d v A s s.heap → W p l e R s m args below meth c H locs (nC σ - bC) (nS σ - bS) Q (F0 m (pc + 3) lsA (v :: st.map (xre ad sv))) → W p l e R s m args below meth c H locs (nC σ - bC) (nS σ - bS) Q (F0 m pc lsA (st.map (xre ad sv))) := by
    intro C n d v hn0 z1 z2 z3 hz k9
    subst z1; subst z2; subst z3
    rw [if_neg hn0] at hw
    exact va_getsN (ref := (xG g).1) hx hb hz hW.2.2.1 hown (va_Nw.use rfl (k1 _ hw)) (fun _ z => z) hd k9
  have hpl : ∀ {C n d : String} {v : Value}, nest = 0 → (xG g).1 = C → (xG g).2.1 = n → (xG g).2.2 = d → va_Z C n d v A s s.heap → W p l e R s m args below meth c H locs (nC σ - bC) (nS σ - bS) Q (F0 m (pc + 3) lsA (v :: st.map (xre ad sv))) → W p l e R s m args below meth c H locs (nC σ - bC) (nS σ - bS) Q (F0 m pc lsA (st.map (xre ad sv))) := by
    intro C n d v hn0 z1 z2 z3 hz k9
    subst z1; subst z2; subst z3
    rw [if_pos hn0] at hw
    exact va_gets (ref := (xG g).1) hx hb hz hW.2.2.1 hown (hts _ hw) (fun _ z => z) hd k9
  have hboth : ∀ {C n d : String} {v : Value}, (xG g).1 = C → (xG g).2.1 = n → (xG g).2.2 = d → va_Z C n d v A s s.heap → W p l e R s m args below meth c H locs (nC σ - bC) (nS σ - bS) Q (F0 m (pc + 3) lsA (v :: st.map (xre ad sv))) → W p l e R s m args below meth c H locs (nC σ - bC) (nS σ - bS) Q (F0 m pc lsA (st.map (xre ad sv))) := by
    intro C n d v z1 z2 z3 hz k9
    by_cases hn0 : nest = 0
    · exact hpl hn0 z1 z2 z3 hz k9
    · exact hnest hn0 z1 z2 z3 hz k9
  dsimp only at h
  match g, hg.1 with
  | 0, _ => cases h; exact hboth rfl rfl rfl a1 (kk ad H locs lsA hW (fun _ _ => rfl) hl)
  | 1, _ => cases h; exact hboth rfl rfl rfl b1 (kk ad H locs lsA hW (fun _ _ => rfl) hl)
  | 2, _ => cases h; exact hboth rfl rfl rfl c1 (kk ad H locs lsA hW (fun _ _ => rfl) hl)
  | 3, _ => exact absurd rfl hg.2
  | 4, _ => cases h; exact hboth rfl rfl rfl e1 (kk ad H locs lsA hW (fun _ _ => rfl) hl)
  | 5, _ => cases h; exact hboth rfl rfl rfl d1 (kk ad H locs lsA hW (fun _ _ => rfl) hl)
  | 6, _ => cases h; exact hboth rfl rfl rfl d2 (kk ad H locs lsA hW (fun _ _ => rfl) hl)
  | 7, _ => cases h; exact hboth rfl rfl rfl d3 (kk ad H locs lsA hW (fun _ _ => rfl) hl)
  | 8, _ => cases h; exact hboth rfl rfl rfl d4 (kk ad H locs lsA hW (fun _ _ => rfl) hl)
  | 9, _ => cases h; exact hboth rfl rfl rfl d5 (kk ad H locs lsA hW (fun _ _ => rfl) hl)
  | 10, _ => cases h; exact hboth rfl rfl rfl d6 (kk ad H locs lsA hW (fun _ _ => rfl) hl)
  | 11, _ => cases h; exact hboth rfl rfl rfl d7 (kk ad H locs lsA hW (fun _ _ => rfl) hl)
theorem xft_at {f : Nat → Int32} {i n : Nat} (h : xft f i n = true) {k : Nat} (hk : k < n) : fits .byte (.int (f (i + k))) = true := by
  unfold xft at h
  have := List.all_eq_true.mp h k (List.mem_range.mpr hk)
  exact this
theorem xNa_n : Cond.native arraycopyName ∈ xWS := xat_in (i := 914) (by decide +kernel)
theorem xNa_s : Cond.static arraycopyName ∈ xWS := xat_in (i := 913) (by decide +kernel)
theorem xNa_i : Cond.initialized "java/lang/System" ∈ xWS := xat_in (i := 27) (by decide +kernel)
theorem ucp_i {ad : Nat → Nat} {cA : Nat → ClassId} {w : Nat → Value} {m : XM} {b cb nb j n i : Nat} {rs : List (Option Nat)} {f : Nat → Int32} (hc : cb = 20 ∨ cb = 21) : xcell ad cA w (ucp m b j n f i) b (cb, nb, rs) = .inl (cA cb, nb, .inl (va_cpy f (m b) i j n)) := by
  rw [xcell_i (x := (cb, nb, rs)) (by dsimp only; omega)]
  congr 4
  funext k
  unfold ucp va_cpy
  by_cases h : j ≤ k ∧ k < j + n
  · rw [if_pos ⟨rfl, h⟩, if_pos h, Nat.add_comm]
  · rw [if_neg (fun q => h q.2), if_neg h]
theorem ucp_ne {m : XM} {b j n i : Nat} {f : Nat → Int32} {a : Nat} (h : a ≠ b) : ucp m b j n f i a = m a := by
  funext k; unfold ucp; rw [if_neg (fun q => h q.1)]
theorem sn_copy {K : XK} {k : Nat} (C : xCx p s m args meth c D cA A sv adc own cc nL nm) (hw : Cond.methodLink (xow own) k (xNt 3) ∈ xWS) (hR : 1 ≤ R.frames ∧ 40 ≤ R.locals) (hd : decode cc pc = .ok (.invokestatic k, 3)) : xStep p l e R s m args below meth c Q D cA A sv adc nL bC bS K .lrem pc 3 := by
  obtain ⟨hx, hb, hml, hown, hts, hK, hA, hE, hin⟩ := C
  have hsv := hE.2.2.2.2.2.2.2.2.2.2.2.1
  intro ls st σ ls' st' σ' ad H locs lsA h hW hl hB kk
  have hE' := xEnv.ad (ad' := ad) hE (fun a h => hW.2.2.2 a h)
  unfold xone at h
  dsimp only at h
  split at h
  · rename_i n j b i a r
    split at h
    · rename_i ca na f hsrc
      split at h
      · rename_i cb nb rb hSb
        split at h
        · rename_i hc
          obtain ⟨rfl, hkind, hab, hn0, hi0, hj0, hl1, hl2, hcat⟩ := hc
          cases h
          have hkd : ca = 20 ∨ ca = 21 := by rcases hkind with q | q; exact Or.inl q; exact Or.inr q.1
          have hcellb := xws_at (ad := ad) (cA := cA) hSb
          rw [xcell_i (x := (ca, nb, rb)) (by dsimp only; omega)] at hcellb
          have hfit : ∀ ty, (ca = 20 ∧ ty = .int) ∨ (ca = 21 ∧ ty = .byte) → ∀ z, z < n.toNatClampNeg → fits ty (.int (f (i.toNatClampNeg + z))) = true := by
            intro ty hty z hz
            rcases hty with ⟨-, rfl⟩ | ⟨h21, rfl⟩
            · rfl
            · rcases hkind with q | q
              · omega
              · exact xft_at q.2 hz
          have hloc : ((st'.map (xre ad sv)).map fun v => v.category).sum + (nativeFrameWords "java/lang/System" "arraycopy" 5 + 11) ≤ R.locals := by
            have h9 : nativeFrameWords "java/lang/System" "arraycopy" 5 ≤ 20 := by decide +kernel
            rw [xcat_re hsv]; have := hR.2; omega
          have go : ∀ (H1 : Heap) (locs1 : List Loc), va_P D vwCl ((xws ad cA σ).set b (ad b, .inl (cA ca, nb, .inl (va_cpy f (σ.2.2.2 b) i.toNatClampNeg j.toNatClampNeg n.toNatClampNeg)))) H1 → va_D A ((xws ad cA σ).set b (ad b, .inl (cA ca, nb, .inl (va_cpy f (σ.2.2.2 b) i.toNatClampNeg j.toNatClampNeg n.toNatClampNeg)))) → va_S A s.heap H1 locs1 →
              W p l e R s m args below meth c H1 locs1 (nC σ - bC) (nS σ - bS) Q (F0 m (pc + 3) lsA (st'.map (xre ad sv))) := fun H1 locs1 g1 g2 g3 =>
            kk ad H1 locs1 lsA (xWf_at hW (a := b) (ucp_i hkd).symm (xws_m hSb (fun a' h => ucp_ne h)) g1 g2 g3) (fun _ _ => rfl) hl
          have n1 : ¬ i < 0 := Int32.not_lt.mpr hi0
          have n2 : ¬ j < 0 := Int32.not_lt.mpr hj0
          have n3 : ¬ n < 0 := Int32.not_lt.mpr hn0
          unfold xsrc at hsrc
          split at hsrc
          · rename_i ci ni ri hSa
            split at hsrc
            · cases hsrc
              have hcella := xws_at (ad := ad) (cA := cA) hSa
              rw [xcell_i (x := (ca, na, ri)) (by dsimp only; omega)] at hcella
              rcases hkd with rfl | rfl
              · exact va_copyi hx hb (hml.trans hl.1.symm) hown (hts _ hw) (hts _ xNa_n) (hts _ xNa_s) (hts _ xNa_i) hK hW.1 hW.2.1 hW.2.2.1 a b 0 0 hcella hcellb rfl rfl rfl n1 n2 n3 hl1 hl2 (hfit .int (Or.inl ⟨rfl, rfl⟩)) hR.1 hloc hd go
              · exact va_copyi hx hb (hml.trans hl.1.symm) hown (hts _ hw) (hts _ xNa_n) (hts _ xNa_s) (hts _ xNa_i) hK hW.1 hW.2.1 hW.2.2.1 a b 1 1 hcella hcellb rfl rfl rfl n1 n2 n3 hl1 hl2 (hfit .byte (Or.inr ⟨rfl, rfl⟩)) hR.1 hloc hd go
            · cases hsrc
          · split at hsrc
            · rename_i n9 f9 hcb
              cases hsrc
              exact vk_copyt hx hb (hml.trans hl.1.symm) hown (hts _ hw) (hts _ xNa_n) (hts _ xNa_s) (hts _ xNa_i) hK hW.1 hW.2.1 hW.2.2.1 (xT_of hE' hcb) b 1 hcellb rfl n1 n2 n3 hl1 hl2 (hfit .byte (Or.inr ⟨rfl, rfl⟩)) hR.1 hloc hd go
            · cases hsrc
        · cases h
      · cases h
    · cases h
  · cases h
theorem sn_cast {K : XK} {k : Nat} (C : xCx p s m args meth c D cA A sv adc own cc nL nm) (hw : Cond.classLink (xow own) k "[B" ∈ xWS) (hd : decode cc pc = .ok (.checkcast k, 3)) : xStep p l e R s m args below meth c Q D cA A sv adc nL bC bS K .monitorenter pc 3 := by
  obtain ⟨hx, hb, hml, hown, hts, hK, hA, hE, hin⟩ := C
  intro ls st σ ls' st' σ' ad H locs lsA h hW hl hB kk
  unfold xone at h
  dsimp only at h
  split at h
  · rename_i a r
    split at h
    · rename_i ci n rs hS
      split at h
      · rename_i hc
        subst hc
        cases h
        have hcell := xws_at (ad := ad) (cA := cA) hS
        rw [xcell_i (x := (21, n, rs)) (Or.inr (Or.inl rfl))] at hcell
        exact va_castA hx hb hown (hts _ hw) hW.1 a hcell (hK.2 1 (cA 21, .byte) rfl).2 hd (kk ad H locs lsA hW (fun _ _ => rfl) hl)
      · cases h
    · cases h
  · cases h
end XArr
