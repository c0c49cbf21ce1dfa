/-! X's new cells. -/
section XNew
variable {p : Program} {l : Launch} {e : Env} {R : Room} {s : State} {m : MethodId} {args : Array Value} {below : List Frame} {meth : Method} {c : Code} {Q : State → Prop} {D : va_G} {cA : Nat → ClassId} {A : Nat → Prop} {sv : Value} {adc : Nat → Nat} {own : Nat} {cc : ByteArray} {nL : Nat} {nm : MethodName} {bC bS : Nat} {pc : Nat}
theorem xre_ok {ad : Nat → Nat} {sv : Value} {n q : Nat} (hn : n < 1000000) {v : Value} (h : xok n v = true) : xre (xad ad n q) sv v = xre ad sv v := by
  cases v with
  | ref a =>
    unfold xok at h
    rw [Bool.or_eq_true, decide_eq_true_eq, decide_eq_true_eq] at h
    have this : ¬ a = n := by
      rcases h with h | h
      · exact Nat.ne_of_lt h
      · exact Nat.ne_of_gt (Nat.lt_of_lt_of_le hn h)
    show Value.ref (xad ad n q a) = Value.ref (ad a)
    unfold xad
    rw [if_neg this]
  | _ => rfl
theorem xre_okL {ad : Nat → Nat} {sv : Value} {n q : Nat} (hn : n < 1000000) {st : List Value} (h : st.all (xok n) = true) : st.map (xre (xad ad n q) sv) = st.map (xre ad sv) :=
  List.map_congr_left fun v hv => xre_ok hn (List.all_eq_true.mp h v hv)
theorem xreL_ok {ad : Nat → Nat} {sv : Value} {n q : Nat} (hn : n < 1000000) {ls : XL} (h : (ls.all fun r => xok n r.2) = true) : xreL (xad ad n q) sv ls = xreL ad sv ls :=
  List.map_congr_left fun v hv => by rw [xre_ok hn (List.all_eq_true.mp h v hv)]
theorem xfresh_good {S : List XC} {ls : XL} {st : List Value} (h : xfresh S ls st = true) : S.length < 1000000 ∧ st.all (xok S.length) = true ∧ (ls.all fun r => xok S.length r.2) = true ∧ xgood S := by
  unfold xfresh at h
  simp only [Bool.and_eq_true, decide_eq_true_eq] at h
  obtain ⟨⟨⟨h1, h2⟩, h3⟩, h4⟩ := h
  refine ⟨h1, h2, h3, fun a x hx k b hk => ?_⟩
  have h5 := List.all_eq_true.mp h4 x (List.mem_of_getElem? hx)
  rw [List.getD_eq_getElem?_getD] at hk
  cases hz : x.2.2[k]? with
  | none => rw [hz] at hk; cases hk
  | some r =>
    rw [hz] at hk
    have h6 := List.all_eq_true.mp h5 r (List.mem_of_getElem? hz)
    change r = some b at hk
    subst hk
    rw [Bool.or_eq_true, decide_eq_true_eq, decide_eq_true_eq] at h6
    exact h6
theorem nC_push {S : List XC} {x : XC} {e : Nat} {w w' : Nat → Value} {m m' : XM} : nC (S ++ [x], e, w', m') = nC (S, e, w, m) + 1 := by
  unfold nC; simp; omega
theorem nS_push {S : List XC} {x : XC} {e : Nat} {w w' : Nat → Value} {m m' : XM} : nS (S ++ [x], e, w', m') = nS (S, e, w, m) + x.2.1 := by
  unfold nS; simp; omega
theorem sn_new {K : XK} {z k : Nat} (C : xCx p s m args meth c D cA A sv adc own cc nL nm) (hw : Cond.classLink (xow own) k (xow z) ∈ xWS) (hd : decode cc pc = .ok (.new k, 3)) : xStep p l e R s m args below meth c Q D cA A sv adc nL bC bS K (.new z) pc 3 := by
  obtain ⟨hx, hb, hml, hown, hts, hK, hA, hE, hin⟩ := C
  intro ls st σ ls' st' σ' ad H locs lsA h hW hl hB kk
  unfold xone at h
  dsimp only at h
  split at h
  · rename_i hc
    obtain ⟨hz, hf⟩ := hc
    obtain ⟨f1, f2, f3, f4⟩ := xfresh_good hf
    obtain ⟨C9, T, N, ty, q1, q2, q3, q4, q5, q6, q7, q8, q9, q10⟩ := xcls hz
    have h := Option.some.inj h
    obtain ⟨e1, h⟩ := Prod.mk.inj h
    obtain ⟨e2, e3⟩ := Prod.mk.inj h
    subst e1; subst e2; subst e3
    obtain ⟨S, ex, w, mm⟩ := σ
    dsimp only at kk f1 f2 f3 f4 hB ⊢
    rw [← q3] at kk hB
    rw [nC_push (w := w) (m := mm), nS_push (w := w) (m := mm)] at kk hB
    dsimp only at kk hB
    have hfs : ∀ q, (List.range N).map (xfv (xad ad S.length q) (uz mm S.length) S.length (z, N, List.replicate N none)) = (List.range N).map (fun k => if xref z k then Value.null else .int 0) := by
      intro q
      refine List.map_congr_left fun k _ => ?_
      unfold xfv
      dsimp only
      have hr : (List.replicate N (none : Option Nat)).getD k none = none := by
        rw [List.getD_eq_getElem?_getD, List.getElem?_replicate]
        split <;> rfl
      rw [hr]
      by_cases hx9 : xref z k = true
      · rw [if_pos hx9, if_pos hx9]; rfl
      · rw [if_neg hx9, if_neg hx9]
        unfold uz
        rw [if_pos rfl]
    rw [q2] at q1 q4 q5 q6
    refine va_new (D := D) (ci := z) (C := xow z) (T := T) (N := N) (fs := (List.range N).map (fun k => if xref z k then Value.null else .int 0)) hx hb hts q4 ty q7 hown (hts _ hw) (hts _ q5) (hts _ q6) hK hW.1 hW.2.1 hW.2.2.1 hA q1 (fun j hj => ?_) (by omega) (by omega) hd (fun q H1 g1 g2 g3 => ?_)
    · unfold vp_V
      rw [List.getD_eq_getElem?_getD, List.getElem?_map, List.getElem?_range hj]
      simp only [Option.map_some, Option.getD_some]
      have := q10 j hj
      unfold xfT at this
      by_cases hr : xref z j = true
      · rw [if_pos hr] at this ⊢; exact this.1
      · rw [if_neg hr] at this ⊢; exact this.1
    · have e0 := xws_push (ad := ad) (cA := cA) (e := ex) (w := w) (w' := w) (m := mm) (q := q) (x := (z, N, List.replicate N none)) f1 f4 (fun _ _ => rfl)
      rw [xcell_o (x := (z, N, List.replicate N none)) hz, hfs] at e0
      have k9 := kk (xad ad S.length q) H1 locs lsA ⟨by rw [e0]; exact g1, by rw [e0]; exact g2, g3, fun a ha => by unfold xad; rw [if_neg (by omega)]; exact hW.2.2.2 a ha⟩ (fun a ha => by unfold xad; rw [if_neg (by simp at ha; omega)]) (by rw [xreL_ok f1 f3]; exact hl)
      have eh : xre (xad ad S.length q) sv (.ref S.length) = .ref q := by show Value.ref (xad ad S.length q S.length) = _; unfold xad; rw [if_pos rfl]
      rw [List.map_cons, eh, xre_okL f1 f2] at k9
      exact W.cs (by omega) (by omega) k9
  · cases h
theorem xK_uniq {cA : Nat → ClassId} {s : State} {t0 : Nat} {a b : ClassId} {ty : FieldType} (hK : va_K D vwCl (xtys cA ++ [(b, ty)]) s) (h : (xtys cA)[t0]? = some (a, ty)) : a = b := by
  have h1 := (hK.2 t0 (a, ty) (by rw [List.getElem?_append_left (List.getElem?_eq_some_iff.mp h).1]; exact h)).2
  have h2 := (hK.2 5 (b, ty) (by rfl)).2
  dsimp only at h1 h2
  cases ty with
  | object C =>
    obtain ⟨_, _, _, _, _, g1⟩ := h1
    obtain ⟨_, _, _, _, _, g2⟩ := h2
    exact Option.some.inj (g1.symm.trans g2)
  | _ => exact Option.some.inj (h1.symm.trans h2)
theorem sn_newarray {K : XK} {t : ArrayType} (C : xCx p s m args meth c D cA A sv adc own cc nL nm) (hk9 : t = .int ∨ t = .byte ∨ t = .boolean) (hw : Cond.arrayClass (newarray.typeOf t) ∈ xWS) (hd : decode cc pc = .ok (.newarray t, 2)) : xStep p l e R s m args below meth c Q D cA A sv adc nL bC bS K (.newarray t) pc 2 := by
  obtain ⟨hx, hb, hml, hown, hts, hK, hA, hE, hin⟩ := C
  intro ls st σ ls' st' σ' ad H locs lsA h hW hl hB kk
  unfold xone at h
  dsimp only at h
  split at h
  · rename_i n r
    split at h
    · rename_i hc
      obtain ⟨hn0, hn1, hf⟩ := hc
      obtain ⟨f1, f2, f3, f4⟩ := xfresh_good hf
      have hn : ¬ n < 0 := Int32.not_lt.mpr hn0
      obtain ⟨S, ex, w, mm⟩ := σ
      dsimp only at kk f1 f2 f3 f4 hB hn1 h ⊢
      have fin : ∀ {q : Nat} {H1 : Heap} {x : XC} {w' : Nat → Value} {z : va_E}, (∀ a', a' ≠ S.length → w' a' = w a') → σ' = (S ++ [x], ex, w', uz mm S.length) → ls' = ls → st' = .ref S.length :: r → xcell (xad ad S.length q) cA w' (uz mm S.length) S.length x = z →
          va_P D vwCl (xws ad cA (S, ex, w, mm) ++ [(q, z)]) H1 → va_D A (xws ad cA (S, ex, w, mm) ++ [(q, z)]) → va_S A s.heap H1 locs → W p l e R s m args below meth c H1 locs (nC (S, ex, w, mm) - bC + 1) (nS (S, ex, w, mm) - bS + x.2.1) Q (F0 m (pc + 2) lsA (.ref q :: r.map (xre ad sv))) := by
        intro q H1 x w' z hw' e1 e2 e3 e4 g1 g2 g3
        subst e1; subst e2; subst e3; subst e4
        rw [nC_push (w := w) (m := mm), nS_push (w := w) (m := mm)] at kk
        have e0 := xws_push (ad := ad) (cA := cA) (e := ex) (w := w) (w' := w') (m := mm) (q := q) (x := x) f1 f4 hw'
        have k9 := kk (xad ad S.length q) H1 locs lsA ⟨by rw [e0]; exact g1, by rw [e0]; exact g2, g3, fun a ha => by unfold xad; rw [if_neg (by omega)]; exact hW.2.2.2 a ha⟩ (fun a ha => by unfold xad; rw [if_neg (by simp at ha; omega)]) (by rw [xreL_ok f1 f3]; exact hl)
        have eh : xre (xad ad S.length q) sv (.ref S.length) = .ref q := by show Value.ref (xad ad S.length q S.length) = _; unfold xad; rw [if_pos rfl]
        rw [List.map_cons, eh, xre_okL f1 f2] at k9
        exact W.cs (by omega) (by omega) k9
      have hbud : ∀ {x : XC} {w' : Nat → Value}, σ' = (S ++ [x], ex, w', uz mm S.length) → nC (S, ex, w, mm) - bC + 1 ≤ R.cells ∧ nS (S, ex, w, mm) - bS + x.2.1 ≤ R.slots := by
        intro x w' e1
        subst e1
        rw [nC_push (w := w) (m := mm), nS_push (w := w) (m := mm)] at hB
        omega
      split at h
      · rename_i ht
        exact absurd ht (by rcases hk9 with rfl | rfl | rfl <;> decide)
      · split at h
        · cases h
        · rename_i ht ht0
          have h := Option.some.inj h
          obtain ⟨e1, h⟩ := Prod.mk.inj h
          obtain ⟨e2, e3⟩ := Prod.mk.inj h
          obtain ⟨b1, b2⟩ := hbud e3.symm
          have hu : (uz mm S.length) S.length = fun _ => 0 := by funext j; unfold uz; rw [if_pos rfl]
          cases t with
          | int =>
            refine va_newa (D := D) (atype := .int) (ty := .int) (a0 := (n.toNatClampNeg, .inl (fun _ => 0))) hx hb (hts _ hw) rfl hK hW.1 hW.2.1 hW.2.2.1 hA (fun _ => rfl) hn rfl (by show _ * 4 ≤ _; omega) b1 b2 hd (fun q cA' H1 gK g1 g2 g3 => ?_)
            have := xK_uniq (t0 := 0) gK rfl
            subst this
            refine fin (fun _ _ => rfl) e3.symm e1.symm e2.symm ?_ g1 g2 g3
            rw [xcell_i (x := (xkind .int, n.toNatClampNeg, [])) (Or.inl rfl), hu]; rfl
          | byte =>
            refine va_newa (D := D) (atype := .byte) (ty := .byte) (a0 := (n.toNatClampNeg, .inl (fun _ => 0))) hx hb (hts _ hw) rfl hK hW.1 hW.2.1 hW.2.2.1 hA (fun _ => rfl) hn rfl (by show _ * 1 ≤ _; omega) b1 b2 hd (fun q cA' H1 gK g1 g2 g3 => ?_)
            have := xK_uniq (t0 := 1) gK rfl
            subst this
            refine fin (fun _ _ => rfl) e3.symm e1.symm e2.symm ?_ g1 g2 g3
            rw [xcell_i (x := (xkind .byte, n.toNatClampNeg, [])) (Or.inr (Or.inl rfl)), hu]; rfl
          | boolean =>
            refine va_newa (D := D) (atype := .boolean) (ty := .boolean) (a0 := (n.toNatClampNeg, .inl (fun _ => 0))) hx hb (hts _ hw) rfl hK hW.1 hW.2.1 hW.2.2.1 hA (fun _ => rfl) hn rfl (by show _ * 1 ≤ _; omega) b1 b2 hd (fun q cA' H1 gK g1 g2 g3 => ?_)
            have := xK_uniq (t0 := 2) gK rfl
            subst this
            refine fin (fun _ _ => rfl) e3.symm e1.symm e2.symm ?_ g1 g2 g3
            rw [xcell_i (x := (xkind .boolean, n.toNatClampNeg, [])) (Or.inr (Or.inr rfl)), hu]; rfl
          | _ => first | exact absurd rfl ht0 | exact absurd (by decide) ht
    · cases h
  · cases h
theorem sn_anewarray {K : XK} {k : Nat} (C : xCx p s m args meth c D cA A sv adc own cc nL nm) (hw : Cond.classLink (xow own) k RX8 ∈ xWS) (hd : decode cc pc = .ok (.anewarray k, 3)) : xStep p l e R s m args below meth c Q D cA A sv adc nL bC bS K (.anewarray 8) pc 3 := by
  obtain ⟨hx, hb, hml, hown, hts, hK, hA, hE, hin⟩ := C
  have hover : va_AO RX8 s := hE.2.2.2.2.2.2.2.2.2.2.2.2.1
  intro ls st σ ls' st' σ' ad H locs lsA h hW hl hB kk
  unfold xone at h
  dsimp only at h
  split at h
  · rename_i n r
    split at h
    · rename_i hc
      obtain ⟨-, hn0, hn1, hf⟩ := hc
      rw [if_pos (rfl : (8 : Nat) = 8)] at h
      obtain ⟨f1, f2, f3, f4⟩ := xfresh_good hf
      have hn : ¬ n < 0 := Int32.not_lt.mpr hn0
      obtain ⟨S, ex, w, mm⟩ := σ
      have h := Option.some.inj h
      obtain ⟨e1, h⟩ := Prod.mk.inj h
      obtain ⟨e2, e3⟩ := Prod.mk.inj h
      subst e1; subst e2; subst e3
      dsimp only at kk f1 f2 f3 f4 hB hn1 ⊢
      rw [nC_push (w := w) (m := mm), nS_push (w := w) (m := mm)] at kk hB
      dsimp only at kk hB
      refine va_newq (D := D) (C := RX8) hx hb hown (hts _ hw) hover hK hW.1 hW.2.1 hW.2.2.1 hA hn rfl (by omega) (by omega) (by omega) hd (fun q cA' H1 gK g1 g2 g3 => ?_)
      have := xK_uniq (t0 := 3) gK rfl
      subst this
      have e0 := xws_push (ad := ad) (cA := cA) (e := ex) (w := w) (w' := w) (m := mm) (q := q) (x := (25, n.toNatClampNeg, List.replicate n.toNatClampNeg none)) f1 f4 (fun _ _ => rfl)
      have hr : (fun k => ((List.replicate n.toNatClampNeg (none : Option Nat)).getD k none).map (xad ad S.length q)) = fun _ => none := by
        funext k
        rw [List.getD_eq_getElem?_getD, List.getElem?_replicate]
        split <;> rfl
      rw [xcell_q (x := (25, n.toNatClampNeg, List.replicate n.toNatClampNeg none)) rfl] at e0
      dsimp only at e0
      rw [hr] at e0
      have k9 := kk (xad ad S.length q) H1 locs lsA ⟨by rw [e0]; exact g1, by rw [e0]; exact g2, g3, fun a ha => by unfold xad; rw [if_neg (by omega)]; exact hW.2.2.2 a ha⟩ (fun a ha => by unfold xad; rw [if_neg (by simp at ha; omega)]) (by rw [xreL_ok f1 f3]; exact hl)
      have eh : xre (xad ad S.length q) sv (.ref S.length) = .ref q := by show Value.ref (xad ad S.length q S.length) = _; unfold xad; rw [if_pos rfl]
      rw [List.map_cons, eh, xre_okL f1 f2] at k9
      exact W.cs (by omega) (by omega) k9
    · cases h
  · cases h
theorem sn_anewarrayS {K : XK} {k : Nat} (C : xCx p s m args meth c D cA A sv adc own cc nL nm) (hw : Cond.classLink (xow own) k "java/lang/String" ∈ xWS) (hd : decode cc pc = .ok (.anewarray k, 3)) : xStep p l e R s m args below meth c Q D cA A sv adc nL bC bS K (.anewarray 14) pc 3 := by
  obtain ⟨hx, hb, hml, hown, hts, hK, hA, hE, hin⟩ := C
  have hover : va_AO "java/lang/String" s := hE.2.2.2.2.2.2.2.2.2.2.2.2.2
  intro ls st σ ls' st' σ' ad H locs lsA h hW hl hB kk
  unfold xone at h
  dsimp only at h
  split at h
  · rename_i n r
    split at h
    · rename_i hc
      obtain ⟨-, hn0, hn1, hf⟩ := hc
      rw [if_neg (by decide : ¬ (14 : Nat) = 8)] at h
      obtain ⟨f1, f2, f3, f4⟩ := xfresh_good hf
      have hn : ¬ n < 0 := Int32.not_lt.mpr hn0
      obtain ⟨S, ex, w, mm⟩ := σ
      have h := Option.some.inj h
      obtain ⟨e1, h⟩ := Prod.mk.inj h
      obtain ⟨e2, e3⟩ := Prod.mk.inj h
      subst e1; subst e2; subst e3
      dsimp only at kk f1 f2 f3 f4 hB hn1 ⊢
      rw [nC_push (w := w) (m := mm), nS_push (w := w) (m := mm)] at kk hB
      dsimp only at kk hB
      refine va_newq (D := D) (C := "java/lang/String") hx hb hown (hts _ hw) hover hK hW.1 hW.2.1 hW.2.2.1 hA hn rfl (by omega) (by omega) (by omega) hd (fun q cA' H1 gK g1 g2 g3 => ?_)
      have := xK_uniq (t0 := 4) gK rfl
      subst this
      have e0 := xws_push (ad := ad) (cA := cA) (e := ex) (w := w) (w' := w) (m := mm) (q := q) (x := (26, n.toNatClampNeg, List.replicate n.toNatClampNeg none)) f1 f4 (fun _ _ => rfl)
      have hr : (fun k => ((List.replicate n.toNatClampNeg (none : Option Nat)).getD k none).map (xad ad S.length q)) = fun _ => none := by
        funext k
        rw [List.getD_eq_getElem?_getD, List.getElem?_replicate]
        split <;> rfl
      rw [xcell_s (x := (26, n.toNatClampNeg, List.replicate n.toNatClampNeg none)) rfl] at e0
      dsimp only at e0
      rw [hr] at e0
      have k9 := kk (xad ad S.length q) H1 locs lsA ⟨by rw [e0]; exact g1, by rw [e0]; exact g2, g3, fun a ha => by unfold xad; rw [if_neg (by omega)]; exact hW.2.2.2 a ha⟩ (fun a ha => by unfold xad; rw [if_neg (by simp at ha; omega)]) (by rw [xreL_ok f1 f3]; exact hl)
      have eh : xre (xad ad S.length q) sv (.ref S.length) = .ref q := by show Value.ref (xad ad S.length q S.length) = _; unfold xad; rw [if_pos rfl]
      rw [List.map_cons, eh, xre_okL f1 f2] at k9
      exact W.cs (by omega) (by omega) k9
    · cases h
  · cases h
theorem xNc_n : Cond.native ⟨"java/lang/Object", "clone", "()Ljava/lang/Object;"⟩ ∈ xWS := xat_in (i := 975) (by decide +kernel)
theorem xNc_i : Cond.instanceMethod ⟨"java/lang/Object", "clone", "()Ljava/lang/Object;"⟩ ∈ xWS := xat_in (i := 976) (by decide +kernel)
theorem xNc_s : Cond.selects "[B" ⟨"[B", "clone", "()Ljava/lang/Object;"⟩ ⟨"java/lang/Object", "clone", "()Ljava/lang/Object;"⟩ ∈ xWS := xat_in (i := 977) (by decide +kernel)
theorem xNc_m : Cond.sameMethod "[B" "java/lang/Object" "clone" "()Ljava/lang/Object;" ∈ xWS := xat_in (i := 974) (by decide +kernel)
theorem xNc_c : Cond.castable "[B" "java/lang/Cloneable" ∈ xNW := List.mem_filter.mpr ⟨List.mem_of_getElem? (i := 978) (by decide +kernel), rfl⟩
theorem sn_clone {K : XK} {k : Nat} (C : xCx p s m args meth c D cA A sv adc own cc nL nm) (hw : Cond.methodLink (xow own) k (xNt 5) ∈ xWS) (hR : 1 ≤ R.frames ∧ 40 ≤ R.locals) (hd : decode cc pc = .ok (.invokevirtual k, 3)) : xStep p l e R s m args below meth c Q D cA A sv adc nL bC bS K .lneg pc 3 := by
  obtain ⟨hx, hb, hml, hown, hts, hK, hA, hE, hin⟩ := C
  have hsv := hE.2.2.2.2.2.2.2.2.2.2.2.1
  intro ls st σ ls' st' σ' ad H locs lsA h hW hl hB kk
  unfold xone at h
  dsimp only at h
  split at h
  · rename_i a r
    split at h
    · rename_i ci n rs hS
      split at h
      · rename_i hc
        obtain ⟨rfl, hn5, hft, hf, hcat⟩ := hc
        obtain ⟨f1, f2, f3, f4⟩ := xfresh_good hf
        obtain ⟨S, ex, w, mm⟩ := σ
        have h := Option.some.inj h
        obtain ⟨e1, h⟩ := Prod.mk.inj h
        obtain ⟨e2, e3⟩ := Prod.mk.inj h
        subst e1; subst e2; subst e3
        dsimp only at kk f1 f2 f3 f4 hB hS hft ⊢
        rw [nC_push (w := w) (m := mm), nS_push (w := w) (m := mm)] at kk hB
        dsimp only at kk hB
        have hcell := xws_at (ad := ad) (cA := cA) (σ := (S, ex, w, mm)) hS
        rw [xcell_i (x := (21, n, rs)) (Or.inr (Or.inl rfl))] at hcell
        dsimp only at hcell
        refine va_clone (ad := "[B") hx hb (hml.trans hl.1.symm) hown (hts _ hw) (hts _ xNc_m) (hts _ xNc_n) (hts _ xNc_i) (hts _ xNc_s) (hE.2.2.2.2.2.2.2.2.2.1 _ xNc_c) hK hW.1 hW.2.1 hW.2.2.1 hA a 1 hcell rfl (hK.2 1 (cA 21, .byte) rfl).2 ?_ hR.1 (by rw [xcat_re hsv]; have := hR.2; omega) (by omega) (by dsimp only; omega) hd (fun q H1 gK g1 g2 g3 => ?_)
        · intro i v hv
          have hsz : i < n := by
            have h1 : i < (vp_cell (cA 21) (n, .inl (mm a))).slots.size := (Array.getElem?_eq_some_iff.mp hv).1
            have h2 : (vp_cell (cA 21) (n, .inl (mm a))).slots.size = n := arrV_size _ _ _
            omega
          have h3 : (vp_cell (cA 21) (n, .inl (mm a))).slots[i]? = some (.int (mm a i)) := arrV_read _ _ hsz
          have h4 : v = .int (mm a i) := Option.some.inj (hv.symm.trans h3)
          rw [h4]
          have := xft_at hft hsz
          rwa [Nat.zero_add] at this
        · have e0 := xws_pushM (ad := ad) (cA := cA) (e := ex) (w := w) (w' := w) (m := mm) (m' := ucl mm S.length a) (q := q) (x := (21, n, [])) f1 f4 (fun _ _ => rfl) (fun a' h => by funext j; unfold ucl; rw [if_neg h])
          have hu : (ucl mm S.length a) S.length = mm a := by funext j; unfold ucl; rw [if_pos rfl]
          rw [xcell_i (x := (21, n, [])) (Or.inr (Or.inl rfl)), hu] at e0
          have k9 := kk (xad ad S.length q) H1 locs lsA ⟨by rw [e0]; exact g1, by rw [e0]; exact g2, g3, fun a ha => by unfold xad; rw [if_neg (by omega)]; exact hW.2.2.2 a ha⟩ (fun a ha => by unfold xad; rw [if_neg (by simp at ha; omega)]) (by rw [xreL_ok f1 f3]; exact hl)
          have eh : xre (xad ad S.length q) sv (.ref S.length) = .ref q := by show Value.ref (xad ad S.length q S.length) = _; unfold xad; rw [if_pos rfl]
          rw [List.map_cons, eh, xre_okL f1 f2] at k9
          exact W.cs (by omega) (by omega) k9
      · cases h
    · cases h
  · cases h
end XNew
