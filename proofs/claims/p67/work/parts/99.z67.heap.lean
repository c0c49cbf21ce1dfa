/-! The instructions of X that read and write cells. -/
section XHeap
variable {p : Program} {l : Launch} {e : Env} {R : Room} {s : State} {m : MethodId} {args : Array Value} {below : List Frame} {meth : Method} {c : Code} {Q : State → Prop} {D : va_G} {cA : Nat → ClassId} {A : Nat → Prop} {sv : Value} {adc : Nat → Nat} {own : Nat} {cc : ByteArray} {nL : Nat} {nm : MethodName} {bC bS : Nat} {pc : Nat}
theorem xcell_o {ad : Nat → Nat} {cA : Nat → ClassId} {w : Nat → Value} {m : XM} {a : Nat} {x : XC} (h : x.1 < 15) : xcell ad cA w m a x = .inr (x.1, (List.range x.2.1).map (xfv ad m a x)) := by
  unfold xcell; rw [if_pos (by omega)]
theorem xcell_i {ad : Nat → Nat} {cA : Nat → ClassId} {w : Nat → Value} {m : XM} {a : Nat} {x : XC} (h : x.1 = 20 ∨ x.1 = 21 ∨ x.1 = 22) : xcell ad cA w m a x = .inl (cA x.1, x.2.1, .inl (m a)) := by
  unfold xcell; rw [if_neg (by omega), if_neg (by omega), if_neg (by omega), if_neg (by omega), if_neg (by omega)]
theorem xcell_l {ad : Nat → Nat} {cA : Nat → ClassId} {w : Nat → Value} {m : XM} {a : Nat} {x : XC} (h : x.1 = 23) : xcell ad cA w m a x = .inl (cA 23, x.2.1, .inr (.inl (fun j => if j = 0 then xtl (w a) else 0))) := by
  unfold xcell; rw [if_neg (by omega), if_pos h]
theorem xcell_d {ad : Nat → Nat} {cA : Nat → ClassId} {w : Nat → Value} {m : XM} {a : Nat} {x : XC} (h : x.1 = 24) : xcell ad cA w m a x = .inl (cA 24, x.2.1, .inr (.inr (.inr (.inl (fun j => if j = 0 then xtd (w a) else 0))))) := by
  unfold xcell; rw [if_neg (by omega), if_neg (by omega), if_pos h]
theorem xcell_q {ad : Nat → Nat} {cA : Nat → ClassId} {w : Nat → Value} {m : XM} {a : Nat} {x : XC} (h : x.1 = 25) : xcell ad cA w m a x = .inl (cA 25, x.2.1, .inr (.inr (.inr (.inr (fun k => (x.2.2.getD k none).map ad))))) := by
  unfold xcell; rw [if_neg (by omega), if_neg (by omega), if_neg (by omega), if_pos h]
theorem xcell_s {ad : Nat → Nat} {cA : Nat → ClassId} {w : Nat → Value} {m : XM} {a : Nat} {x : XC} (h : x.1 = 26) : xcell ad cA w m a x = .inl (cA 26, x.2.1, .inr (.inr (.inr (.inr (fun k => (x.2.2.getD k none).map ad))))) := by
  unfold xcell; rw [if_neg (by omega), if_neg (by omega), if_neg (by omega), if_neg (by omega), if_pos h]
theorem xF_k {f : Nat} (h : f / 32 < 15) {C : String} {T : u_T} {N : Nat} (q : vwCl[f / 32]? = some (C, T, N)) : xF f = ((T (f % 32)).1, (T (f % 32)).2.1, (T (f % 32)).2.2.1) := by
  unfold xF
  rw [if_neg (by omega), if_neg (by omega), q]
theorem xin_vp {i : Int32} {n : Nat} (h : xin i n = true) : vp_in i n := by
  unfold xin at h
  rw [Bool.and_eq_true, decide_eq_true_eq, decide_eq_true_eq] at h
  intro q
  rcases q with q | q
  · exact absurd h.1 (Int32.not_le.mpr q)
  · omega
theorem xfs_set_i {ad : Nat → Nat} {m : XM} {a k : Nat} {x : XC} {v : Int32} (hr : xref x.1 k = false) : ((List.range x.2.1).map (xfv ad m a x)).set k (.int v) = (List.range x.2.1).map (xfv ad (um m a k v) a x) := by
  apply List.ext_getElem?
  intro i
  by_cases hi : i = k
  · subst hi
    by_cases hl : i < x.2.1
    · rw [List.getElem?_set_self (by simpa using hl), List.getElem?_map, List.getElem?_range hl]
      simp only [Option.map_some]
      unfold xfv um
      rw [hr]; simp
    · rw [List.getElem?_eq_none (by simp; omega), List.getElem?_eq_none (by simp; omega)]
  · rw [List.getElem?_set_ne (Ne.symm hi), List.getElem?_map, List.getElem?_map]
    cases hz : (List.range x.2.1)[i]? with
    | none => rfl
    | some j =>
      have : j = i := by
        obtain ⟨h1, h2⟩ := List.getElem?_eq_some_iff.mp hz
        rw [List.getElem_range] at h2; exact h2.symm
      subst this
      simp only [Option.map_some]
      unfold xfv um
      rw [if_neg (c := a = a ∧ j = k) (fun q => hi q.2)]
theorem xfs_set_r {ad : Nat → Nat} {m : XM} {a k b : Nat} {ci n : Nat} {rs : List (Option Nat)} (hr : xref ci k = true) (hl : rs.length = n) : ((List.range n).map (xfv ad m a (ci, n, rs))).set k (.ref (ad b)) = (List.range n).map (xfv ad m a (ci, n, rs.set k (some b))) := by
  apply List.ext_getElem?
  intro i
  by_cases hi : i = k
  · subst hi
    by_cases hl2 : i < n
    · rw [List.getElem?_set_self (by simpa using hl2), List.getElem?_map, List.getElem?_range hl2]
      simp only [Option.map_some]
      unfold xfv
      rw [if_pos hr]
      have : (rs.set i (some b)).getD i none = some b := by
        rw [List.getD_eq_getElem?_getD, List.getElem?_set_self (by omega)]; rfl
      dsimp only
      rw [this]; rfl
    · rw [List.getElem?_eq_none (by simp; omega), List.getElem?_eq_none (by simp; omega)]
  · rw [List.getElem?_set_ne (Ne.symm hi), List.getElem?_map, List.getElem?_map]
    cases hz : (List.range n)[i]? with
    | none => rfl
    | some j =>
      have : j = i := by
        obtain ⟨h1, h2⟩ := List.getElem?_eq_some_iff.mp hz
        rw [List.getElem_range] at h2; exact h2.symm
      subst this
      simp only [Option.map_some]
      unfold xfv
      dsimp only
      have : (rs.set k (some b)).getD j none = rs.getD j none := by
        rw [List.getD_eq_getElem?_getD, List.getD_eq_getElem?_getD, List.getElem?_set_ne (Ne.symm hi)]
      rw [this]
theorem sn_getfield {K : XK} {f k nest : Nat} (C : xCx p s m args meth c D cA A sv adc own cc nL nm) (hw : if nest = 0 then Cond.fieldLink (xow own) k (xF f).1 (xF f).2.1 (xF f).2.2 ∈ xWS else Cond.fieldLinkNest (xow own) k (xF f).1 (xF f).2.1 (xF f).2.2 "BannerParadeLaw" ∈ xNW) (hf : (f / 32 < 15 ∧ f % 32 < xnf.getD (f / 32) 0) ∨ ((f = 960 ∨ f = 961) ∧ nest = 0)) (hd : decode cc pc = .ok (.getfield k, 3)) : xStep p l e R s m args below meth c Q D cA A sv adc nL bC bS K (.getfield f) pc 3 := by
  obtain ⟨hx, hb, hml, hown, hts, hK, hA, hE, hin⟩ := C
  intro ls st σ ls' st' σ' ad H locs lsA h hW hl hB kk
  unfold xone at h
  dsimp only at h
  split at h
  · rename_i a r
    split at h
    · rename_i v hv
      cases h
      unfold xget at hv
      split at hv
      · rename_i ci n rs hS
        split at hv
        · rename_i hc
          obtain ⟨h1, h2, h3⟩ := hc
          subst h1
          rcases hf with ⟨hf1, hf2⟩ | ⟨rfl | rfl, -⟩
          · obtain ⟨C9, T, N, ty, q1, q2, q3, q4, q5, q6, q7, q8, q9, q10⟩ := xcls hf1
            have hF := xF_k hf1 q1
            rw [hF] at hw
            have hk9 : f % 32 < N := by rw [q3]; exact hf2
            have hcell := xws_at (ad := ad) (cA := cA) hS
            rw [xcell_o (show (f / 32, n, rs).1 < 15 from hf1)] at hcell
            have hval : ((List.range n).map (xfv ad σ.2.2.2 a (f / 32, n, rs)))[f % 32]? = some (xre ad sv v) := by
              rw [List.getElem?_map, List.getElem?_range h2]
              simp only [Option.map_some]
              congr 1
              unfold xfv
              dsimp only
              by_cases hr : xref (f / 32) (f % 32) = true
              · rw [if_pos hr] at hv ⊢
                split at hv
                · rename_i b hb9
                  cases hv
                  rw [List.getD_eq_getElem?_getD, hb9]; rfl
                · cases hv
              · rw [if_neg hr] at hv ⊢
                cases hv; rfl
            by_cases hn : nest = 0
            · rw [if_pos hn] at hw
              exact va_get (D := D) (ci := f / 32) (v := xre ad sv v) (C := C9) (T := T) (N := N) (ref := (T (f % 32)).1) hx hb hts q4 hown hK hW.1 a hcell q1 (f % 32) hk9 (hts _ hw) (fun _ z => z) hval hd (kk ad H locs lsA hW (fun _ _ => rfl) hl)
            · rw [if_neg hn] at hw
              exact va_getN (D := D) (ci := f / 32) (v := xre ad sv v) (C := C9) (T := T) (N := N) (ref := (T (f % 32)).1) hx hb hts q4 hown hK hW.1 a hcell q1 (f % 32) hk9 (va_Nw.use rfl (hE.2.2.2.2.2.2.2.2.2.1 _ hw)) (fun _ z => z) hval hd (kk ad H locs lsA hW (fun _ _ => rfl) hl)
          · omega
          · omega
        · unfold xgetS at hv
          split at hv
          · rename_i hc9
            obtain ⟨rfl, rfl⟩ := hc9
            obtain ⟨C9, T, N, ty, q1, q2, q3, q4, q5, q6, q7, q8, q9, q10⟩ := xcls (c := 14) (by decide)
            cases (show vwCl[14]? = some (RJ0, TJ0, 4) from rfl).symm.trans q1
            have hcell := xws_at (ad := ad) (cA := cA) hS
            rw [xcell_o (show (14 : Nat) < 15 by decide)] at hcell
            rcases hf with ⟨hf1, hf2⟩ | ⟨hf0, hn⟩
            · exfalso
              split at hv
              · rename_i h9; subst h9; exact absurd hf1 (by decide)
              · split at hv
                · rename_i h9; subst h9; exact absurd hf1 (by decide)
                · cases hv
            · rw [if_pos hn] at hw
              split at hv
              · rename_i h9
                subst h9
                split at hv
                · rename_i b hb9
                  cases hv
                  refine va_get (D := D) (ci := 14) (v := .ref (ad b)) (C := RJ0) (T := TJ0) (N := 4) (ref := "java/lang/String") hx hb hts q4 hown hK hW.1 a hcell q1 0 (by decide) (hts _ hw) (fun _ z => z) ?_ hd (kk ad H locs lsA hW (fun _ _ => rfl) hl)
                  rw [List.getElem?_map, List.getElem?_range (show 0 < 4 by decide)]
                  simp only [Option.map_some]
                  congr 1
                  unfold xfv
                  dsimp only
                  rw [if_pos (by rfl), List.getD_eq_getElem?_getD, hb9]; rfl
                · cases hv
              · split at hv
                · rename_i h9
                  cases hv; subst h9
                  refine va_get (D := D) (ci := 14) (v := .int (σ.2.2.2 a 1)) (C := RJ0) (T := TJ0) (N := 4) (ref := "java/lang/String") hx hb hts q4 hown hK hW.1 a hcell q1 1 (by decide) (hts _ hw) (fun _ z => z) ?_ hd (kk ad H locs lsA hW (fun _ _ => rfl) hl)
                  rw [List.getElem?_map, List.getElem?_range (show 1 < 4 by decide)]
                  rfl
                · cases hv
          · cases hv
      · rename_i hS
        split at hv
        · rename_i hc
          have hn : nest = 0 := by
            rcases hf with ⟨hf1, -⟩ | ⟨-, h9⟩
            · exfalso
              split at hv
              · rename_i h9; subst h9; exact absurd hf1 (by decide)
              · split at hv
                · rename_i h9; subst h9; exact absurd hf1 (by decide)
                · cases hv
            · exact h9
          rw [if_pos hn] at hw
          have hE' := xEnv.ad (ad' := ad) hE (fun a h => hW.2.2.2 a h)
          obtain ⟨-, -, -, -, -, hs, -⟩ := hE'
          obtain ⟨i, hi0⟩ := Nat.exists_eq_add_of_le hc.1
          have hi : i < 18 := by have := hc.2; omega
          obtain ⟨-, g2, g3, -⟩ := hs.1 _ hi
          subst hi0
          split at hv
          · rename_i hf0
            cases hv; subst hf0
            have e2 : 1000040 + i = 1000010 + i + 30 := by omega
            dsimp only at g3
            rw [e2] at g3
            exact vk_getf (ref := "java/lang/String") hx hb g3 hW.2.2.1 hown (hts _ hw) (fun _ z => z) hd (kk ad H locs lsA hW (fun _ _ => rfl) hl)
          · split at hv
            · rename_i hf0
              cases hv; subst hf0
              exact vk_getf (ref := "java/lang/String") hx hb g2 hW.2.2.1 hown (hts _ hw) (fun _ z => z) hd (kk ad H locs lsA hW (fun _ _ => rfl) hl)
            · cases hv
        · cases hv
    · cases h
  · cases h
theorem xWf_at {D : va_G} {cA : Nat → ClassId} {A : Nat → Prop} {s : State} {adc ad : Nat → Nat} {σ τ : XS} {H H1 : Heap} {locs locs1 : List Loc} (hW : xWf D cA A s adc ad σ H locs) {a : Nat} {z z' : va_E} (hz : z = z') (he : xws ad cA τ = (xws ad cA σ).set a (ad a, z')) (h1 : va_P D vwCl ((xws ad cA σ).set a (ad a, z)) H1) (h2 : va_D A ((xws ad cA σ).set a (ad a, z))) (h3 : va_S A s.heap H1 locs1) : xWf D cA A s adc ad τ H1 locs1 := by
  subst hz
  exact ⟨by rw [he]; exact h1, by rw [he]; exact h2, h3, hW.2.2.2⟩
theorem sn_putfield {K : XK} {f k nest : Nat} (C : xCx p s m args meth c D cA A sv adc own cc nL nm) (hw : if nest = 0 then Cond.fieldLink (xow own) k (xF f).1 (xF f).2.1 (xF f).2.2 ∈ xWS else Cond.fieldLinkNest (xow own) k (xF f).1 (xF f).2.1 (xF f).2.2 "BannerParadeLaw" ∈ xNW) (hf : f / 32 < 15 ∧ f % 32 < xnf.getD (f / 32) 0)
    (hfin : ∀ T N C9, vwCl[f / 32]? = some (C9, T, N) → (T (f % 32)).2.2.2 = false ∨ (nm.name = "<init>" ∧ own = f / 32 ∧ f / 32 < 12 ∧ nest = 0)) (hd : decode cc pc = .ok (.putfield k, 3)) : xStep p l e R s m args below meth c Q D cA A sv adc nL bC bS K (.putfield f) pc 3 := by
  obtain ⟨hx, hb, hml, hown, hts, hK, hA, hE, hin⟩ := C
  intro ls st σ ls' st' σ' ad H locs lsA h hW hl hB kk
  obtain ⟨hf1, hf2⟩ := hf
  obtain ⟨C9, T, N, ty, q1, q2, q3, q4, q5, q6, q7, q8, q9, q10⟩ := xcls hf1
  have hF := xF_k hf1 q1
  rw [hF] at hw
  have hk9 : f % 32 < N := by rw [q3]; exact hf2
  have ht10 := q10 _ hk9
  have hfin := hfin T N C9 q1
  have hput : ∀ {a : Nat} {n : Nat} {rs : List (Option Nat)} {v : Value} {r : List Value} {cells slots : Nat}, σ.1[a]? = some (f / 32, n, rs) → f % 32 < n → narrow (ty (f % 32)) v = v → fits (ty (f % 32)) v = true →
      (∀ (H1 : Heap) (locs1 : List Loc), va_P D vwCl ((xws ad cA σ).set a (ad a, .inr (f / 32, ((List.range n).map (xfv ad σ.2.2.2 a (f / 32, n, rs))).set (f % 32) v))) H1 → va_D A ((xws ad cA σ).set a (ad a, .inr (f / 32, ((List.range n).map (xfv ad σ.2.2.2 a (f / 32, n, rs))).set (f % 32) v))) → va_S A s.heap H1 locs1 → W p l e R s m args below meth c H1 locs1 cells slots Q (F0 m (pc + 3) lsA r)) →
      W p l e R s m args below meth c H locs cells slots Q (F0 m pc lsA (v :: .ref (ad a) :: r)) := by
    intro a n rs v r cells slots hS hn hnar hfit kk9
    have hcell := xws_at (ad := ad) (cA := cA) hS
    rw [xcell_o (show (f / 32, n, rs).1 < 15 from hf1)] at hcell
    by_cases hfl : (T (f % 32)).2.2.2 = false
    · by_cases hnn : nest = 0
      · rw [if_pos hnn] at hw
        exact va_put (D := D) (ci := f / 32) (v := v) (ty := ty (f % 32)) (C := C9) (T := T) (N := N) (ref := (T (f % 32)).1) hx hb hts q4 ty q7 q8 hown hK hW.1 hW.2.1 hW.2.2.1 a hcell q1 (f % 32) hk9 (hts _ hw) (fun _ z => z) hfl (q7 _ hk9) hnar hfit (by simpa using hn) hd kk9
      · rw [if_neg hnn] at hw
        exact va_putN (D := D) (ci := f / 32) (v := v) (C := C9) (T := T) (N := N) (ref := (T (f % 32)).1) hx hb hts q4 ty q7 q8 hown hK hW.1 hW.2.1 hW.2.2.1 a hcell q1 (f % 32) hk9 (va_Nw.use rfl (hE.2.2.2.2.2.2.2.2.2.1 _ hw)) (fun _ z => z) hfl (q7 _ hk9) hnar hfit (by simpa using hn) hd kk9
    · rcases hfin with z | ⟨z1, z2, z3, hnn⟩
      · exact absurd z hfl
      · rw [if_pos hnn] at hw
        exact va_putF (D := D) (ci := f / 32) (v := v) (ty := ty (f % 32)) (C := C9) (T := T) (N := N) (ref := (T (f % 32)).1) hx hb hts q4 ty q7 q8 hown hK hW.1 hW.2.1 hW.2.2.1 a hcell q1 (f % 32) hk9 (hts _ hw) (fun _ z => z) (by cases hb9 : (T (f % 32)).2.2.2 with
          | true => rfl
          | false => exact absurd hb9 hfl) (hin.trans z1) (by rw [q9 z3 _ hk9, q2, z2]) (q7 _ hk9) hnar hfit (by simpa using hn) hd kk9
  unfold xone at h
  dsimp only at h
  split at h
  · rename_i v a r
    split at h
    · rename_i ci n rs hS
      split at h
      · rename_i hc
        obtain ⟨h1, h2, h3, h4, h5⟩ := hc
        subst h1
        cases h
        unfold xfT at ht10
        rw [h4] at ht10
        obtain ⟨t1, t2⟩ := ht10.2 v h5
        refine hput (v := .int v) hS h3 t1 t2 (fun H1 locs1 g1 g2 g3 => kk ad H1 locs1 lsA (xWf_at hW (a := a) ?_ (xws_um hS) g1 g2 g3) (fun _ _ => rfl) hl)
        rw [xcell_o (show (f / 32, n, rs).1 < 15 from hf1)]
        congr 2
        exact xfs_set_i (x := (f / 32, n, rs)) h4
      · split at h
        · rename_i m' hm'
          unfold xputI at hm'
          split at hm'
          · rename_i hc9
            obtain ⟨-, -, h9, -⟩ := hc9
            exfalso; subst h9; exact absurd hf1 (by decide)
          · cases hm'
        · cases h
    · cases h
  · rename_i v a r
    split at h
    · rename_i ci n rs hS
      split at h
      · rename_i hc
        obtain ⟨h1, h2, h3, h4, h5, h6⟩ := hc
        subst h1
        cases h
        unfold xfT at ht10
        rw [h4] at ht10
        obtain ⟨t0, t1, t2⟩ := ht10
        have hz : nC (σ.1.set a (f / 32, n, rs.set (f % 32) (some v)), σ.2.1, σ.2.2.1, σ.2.2.2) = nC σ := by unfold nC; dsimp only; rw [List.length_set]
        have hz2 : nS (σ.1.set a (f / 32, n, rs.set (f % 32) (some v)), σ.2.1, σ.2.2.1, σ.2.2.2) = nS σ := by
          unfold nS; dsimp only
          rw [List.map_set]
          congr 2
          have hlt := (List.getElem?_eq_some_iff.mp hS).1
          apply List.ext_getElem?
          intro i
          by_cases hi : i = a
          · subst hi
            rw [List.getElem?_set_self (by simpa using hlt), List.getElem?_map, hS]; rfl
          · rw [List.getElem?_set_ne (Ne.symm hi)]
        rw [hz, hz2] at kk
        refine hput (v := .ref (ad v)) hS h3 (t1 _) (t2 _) (fun H1 locs1 g1 g2 g3 => kk ad H1 locs1 lsA (xWf_at hW (a := a) ?_ (xws_cell hS) g1 g2 g3) (fun _ _ => rfl) hl)
        rw [xcell_o (show (f / 32, n, rs.set (f % 32) (some v)).1 < 15 from hf1)]
        congr 2
        exact xfs_set_r h4 h5
      · split at h
        · rename_i S' hS'
          unfold xputR at hS'
          split at hS'
          · rename_i hc9
            obtain ⟨-, -, h9, -⟩ := hc9
            exfalso; subst h9; exact absurd hf1 (by decide)
          · cases hS'
        · cases h
    · cases h
  · cases h
theorem sn_putS {K : XK} {f k : Nat} (C : xCx p s m args meth c D cA A sv adc own cc nL nm) (hw : Cond.fieldLink (xow own) k (xF f).1 (xF f).2.1 (xF f).2.2 ∈ xWS) (hf : f = 960 ∨ f = 961) (hini : nm.name = "<init>" ∧ own = 14) (hd : decode cc pc = .ok (.putfield k, 3)) : xStep p l e R s m args below meth c Q D cA A sv adc nL bC bS K (.putfield f) pc 3 := by
  obtain ⟨hx, hb, hml, hown, hts, hK, hA, hE, hin⟩ := C
  intro ls st σ ls' st' σ' ad H locs lsA h hW hl hB kk
  obtain ⟨C9, T, N, ty, q1, q2, q3, q4, q5, q6, q7, q8, q9, q10⟩ := xcls (c := 14) (by decide)
  cases (show vwCl[14]? = some (RJ0, TJ0, 4) from rfl).symm.trans q1
  unfold xone at h
  dsimp only at h
  split at h
  · rename_i v a r
    split at h
    · rename_i ci n rs hS
      split at h
      · rename_i hc
        obtain ⟨h1, h2, -⟩ := hc
        exfalso; rcases hf with rfl | rfl <;> (rw [h1] at h2; exact absurd h2 (by decide))
      · split at h
        · rename_i m' hm'
          unfold xputI at hm'
          split at hm'
          · rename_i hc9
            obtain ⟨rfl, rfl, rfl, rfl⟩ := hc9
            cases hm'
            cases h
            have hcell := xws_at (ad := ad) (cA := cA) hS
            rw [xcell_o (show (14 : Nat) < 15 by decide)] at hcell
            refine va_putF (D := D) (ci := 14) (v := .int 0) (ty := ty 1) (C := RJ0) (T := TJ0) (N := 4) (ref := "java/lang/String") hx hb hts q4 ty q7 q8 hown hK hW.1 hW.2.1 hW.2.2.1 a hcell q1 1 (by decide) (hts _ hw) (fun _ z => z) rfl (hin.trans hini.1) (by rw [hini.2]; rfl) (q7 1 (by decide)) ?_ ?_ (by simp) hd (fun H1 locs1 g1 g2 g3 => kk ad H1 locs1 lsA (xWf_at hW (a := a) ?_ (xws_um hS) g1 g2 g3) (fun _ _ => rfl) hl)
            · have := q10 1 (by decide); unfold xfT at this; rw [show xref 14 1 = false from rfl] at this; exact (this.2 0 (Or.inr (Or.inl rfl))).1
            · have := q10 1 (by decide); unfold xfT at this; rw [show xref 14 1 = false from rfl] at this; exact (this.2 0 (Or.inr (Or.inl rfl))).2
            · rw [xcell_o (show (14 : Nat) < 15 by decide)]
              congr 2
              exact xfs_set_i (x := (14, 4, rs)) rfl
          · cases hm'
        · cases h
    · cases h
  · rename_i v a r
    split at h
    · rename_i ci n rs hS
      split at h
      · rename_i hc
        obtain ⟨h1, h2, -⟩ := hc
        exfalso; rcases hf with rfl | rfl <;> (rw [h1] at h2; exact absurd h2 (by decide))
      · split at h
        · rename_i S' hS'
          unfold xputR at hS'
          split at hS'
          · rename_i hc9
            obtain ⟨rfl, rfl, rfl, h5, h6⟩ := hc9
            cases hS'
            cases h
            have hcell := xws_at (ad := ad) (cA := cA) hS
            rw [xcell_o (show (14 : Nat) < 15 by decide)] at hcell
            have hz : nC (σ.1.set a (14, 4, rs.set 0 (some v)), σ.2.1, σ.2.2.1, σ.2.2.2) = nC σ := by unfold nC; dsimp only; rw [List.length_set]
            have hz2 : nS (σ.1.set a (14, 4, rs.set 0 (some v)), σ.2.1, σ.2.2.1, σ.2.2.2) = nS σ := by
              unfold nS; dsimp only
              rw [List.map_set]
              congr 2
              have hlt := (List.getElem?_eq_some_iff.mp hS).1
              apply List.ext_getElem?
              intro i
              by_cases hi : i = a
              · subst hi
                rw [List.getElem?_set_self (by simpa using hlt), List.getElem?_map, hS]; rfl
              · rw [List.getElem?_set_ne (Ne.symm hi)]
            rw [hz, hz2] at kk
            have ht0 := q10 0 (by decide)
            unfold xfT at ht0
            rw [show xref 14 0 = true from rfl] at ht0
            refine va_putF (D := D) (ci := 14) (v := .ref (ad v)) (ty := ty 0) (C := RJ0) (T := TJ0) (N := 4) (ref := "java/lang/String") hx hb hts q4 ty q7 q8 hown hK hW.1 hW.2.1 hW.2.2.1 a hcell q1 0 (by decide) (hts _ hw) (fun _ z => z) rfl (hin.trans hini.1) (by rw [hini.2]; rfl) (q7 0 (by decide)) (ht0.2.1 _) (ht0.2.2 _) (by simp) hd (fun H1 locs1 g1 g2 g3 => kk ad H1 locs1 lsA (xWf_at hW (a := a) ?_ (xws_cell hS) g1 g2 g3) (fun _ _ => rfl) hl)
            rw [xcell_o (show (14 : Nat) < 15 by decide)]
            congr 2
            exact xfs_set_r (ci := 14) rfl h5
          · cases hS'
        · cases h
    · cases h
  · cases h
end XHeap
