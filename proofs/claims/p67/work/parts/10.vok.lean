/-! The verification conditions are sound. -/
def xB (y n D rt : Nat) (is : List Instr) (ls : XL) (st : List Value) (σ : XS) : XO :=
  xblk xK0 rt [] (fun L' ls' st' σ' => xrun xK0 n D y L' ls' st' σ') (xCf n D) is ls st σ
theorem xrun_le' {z : XR × XS} {n n' : Nat} {K : XK} {d y L : Nat} {ls : XL} {st : List Value} {σ : XS} (hn : n ≤ n') (h : xrun K n d y L ls st σ = some z) : xrun K n' d y L ls st σ = some z := by
  rcases Nat.lt_or_eq_of_le hn with h1 | rfl
  · exact xrun_le (Nat.le_refl _) h1 h
  · exact h
theorem xCf_le {z : XR × XS} {n n' D y : Nat} {args : List Value} {σ : XS} (hn : n ≤ n') (h : xCf n D y args σ = some z) : xCf n' D y args σ = some z := by
  unfold xCf at h ⊢
  cases D with
  | zero => cases h
  | succ D => exact xrun_le' hn h
theorem xB_le {y n n' D rt : Nat} {is : List Instr} {ls : XL} {st : List Value} {σ : XS} {z : XR × XS} (hn : n ≤ n') (h : xB y n D rt is ls st σ = some z) : xB y n' D rt is ls st σ = some z :=
  xblk_up (fun _ _ _ _ h => xrun_le' hn h) (fun _ _ _ _ h => xCf_le hn h) _ _ _ _ h
def vbG (y D rt : Nat) (Q : Value → XM → Prop) (E : Nat → XM → Prop) (is : List Instr) (al : AL) (st : List AV) (m : XM) : Prop :=
  ∃ (n : Nat) (r : XR) (m' : XM), (∀ (e : Nat) (w : Nat → Value), xB y n D rt is (cvL al) (cvS st) (S0, e, w, m) = some (r, S0, e + exn r, w, m')) ∧ vpost rt r m' Q E
theorem VL_to {D y L rt : Nat} {al : AL} {st : List AV} {m : XM} {Q : Value → XM → Prop} {E : Nat → XM → Prop} (h : VL D y L al st m Q E) (hr : rtOf y = rt) (hl : wtL al) (hs : wtS st) :
    ∃ (n : Nat) (r : XR) (m' : XM), (∀ (e : Nat) (w : Nat → Value), xrun xK0 n D y L (cvL al) (cvS st) (S0, e, w, m) = some (r, S0, e + exn r, w, m')) ∧ vpost rt r m' Q E := by
  subst hr
  exact h hl hs
theorem vbr_ok {c : ClassFile.Cond} {a b : Int32} {t f : Prop} {tt ff : Nat → Nat → (Nat → Value) → XO} {rt : Nat} {Q : Value → XM → Prop} {E : Nat → XM → Prop}
    (ht : t → ∃ (n : Nat) (r : XR) (m' : XM), (∀ (e : Nat) (w : Nat → Value), tt n e w = some (r, S0, e + exn r, w, m')) ∧ vpost rt r m' Q E)
    (hf : f → ∃ (n : Nat) (r : XR) (m' : XM), (∀ (e : Nat) (w : Nat → Value), ff n e w = some (r, S0, e + exn r, w, m')) ∧ vpost rt r m' Q E) (h : vbr c a b t f) :
    ∃ (n : Nat) (r : XR) (m' : XM), (∀ (e : Nat) (w : Nat → Value), xbr c a b (tt n e w) (ff n e w) = some (r, S0, e + exn r, w, m')) ∧ vpost rt r m' Q E := by
  have goT : t → (∀ (x y : XO), xbr c a b x y = x) → ∃ (n : Nat) (r : XR) (m' : XM), (∀ (e : Nat) (w : Nat → Value), xbr c a b (tt n e w) (ff n e w) = some (r, S0, e + exn r, w, m')) ∧ vpost rt r m' Q E := by
    intro h1 h2
    obtain ⟨n, r, m', h3, h4⟩ := ht h1
    exact ⟨n, r, m', fun e w => by rw [h2]; exact h3 e w, h4⟩
  have goF : f → (∀ (x y : XO), xbr c a b x y = y) → ∃ (n : Nat) (r : XR) (m' : XM), (∀ (e : Nat) (w : Nat → Value), xbr c a b (tt n e w) (ff n e w) = some (r, S0, e + exn r, w, m')) ∧ vpost rt r m' Q E := by
    intro h1 h2
    obtain ⟨n, r, m', h3, h4⟩ := hf h1
    exact ⟨n, r, m', fun e w => by rw [h2]; exact h3 e w, h4⟩
  unfold vbr at h
  cases c <;> dsimp only at h
  · by_cases hc : a = b
    · exact goT (h.1 hc) (fun _ _ => if_pos hc)
    · exact goF (h.2 hc) (fun _ _ => if_neg hc)
  · by_cases hc : a = b
    · exact goF (h.1 hc) (fun _ _ => if_pos hc)
    · exact goT (h.2 hc) (fun _ _ => if_neg hc)
  · by_cases hc : a < b
    · exact goT (h.1 hc) (fun _ _ => if_pos hc)
    · exact goF (h.2 hc) (fun _ _ => if_neg hc)
  · by_cases hc : b ≤ a
    · exact goT (h.1 hc) (fun _ _ => if_pos hc)
    · exact goF (h.2 hc) (fun _ _ => if_neg hc)
  · by_cases hc : b < a
    · exact goT (h.1 hc) (fun _ _ => if_pos hc)
    · exact goF (h.2 hc) (fun _ _ => if_neg hc)
  · by_cases hc : a ≤ b
    · exact goT (h.1 hc) (fun _ _ => if_pos hc)
    · exact goF (h.2 hc) (fun _ _ => if_neg hc)
theorem xi_toInt {x : Int32} {k : Int} (h : x.toInt = k) : x = xi k := by
  rw [xi_eq, ← h, Int32.ofInt_toInt]
theorem toInt_xi {x : Int32} {k : Int} (h : x = xi k) (h1 : -1000 ≤ k) (h2 : k ≤ 1000) : x.toInt = k := by
  rw [h, xi_eq]
  exact Int32.toInt_ofInt_of_le (by omega) (by omega)
theorem vsw_ok {x : Int32} {d : Prop} {J : Int → Prop} : ∀ (l : List Int) (k : Int), vsw x d J k l → -1000 ≤ k → k + l.length ≤ 1001 →
    ((k ≤ x.toInt ∧ x.toInt < k + l.length → ∃ L, l[(x.toInt - k).toNat]? = some L ∧ J L) ∧ (¬ (k ≤ x.toInt ∧ x.toInt < k + l.length) → d)) := by
  intro l
  induction l with
  | nil =>
    intro k h _ _
    exact ⟨fun h1 => by simp at h1; omega, fun _ => h⟩
  | cons L t ih =>
    intro k h hk hl
    obtain ⟨h1, h2⟩ := h
    rw [List.length_cons] at hl
    simp only [List.length_cons]
    by_cases e : x.toInt = k
    · have := h1 (xi_toInt e)
      refine ⟨fun _ => ⟨L, ?_, this⟩, fun h3 => absurd ⟨by omega, by omega⟩ h3⟩
      rw [e, Int.sub_self]; rfl
    · have h3 := ih (k + 1) (h2 (fun e2 => e (toInt_xi e2 hk (by omega)))) (by omega) (by omega)
      refine ⟨fun h4 => ?_, fun h4 => h3.2 (fun h5 => h4 ⟨by omega, by omega⟩)⟩
      obtain ⟨L', h5, h6⟩ := h3.1 ⟨by omega, by omega⟩
      refine ⟨L', ?_, h6⟩
      have : (x.toInt - k).toNat = (x.toInt - (k + 1)).toNat + 1 := by omega
      rw [this, List.getElem?_cons_succ]; exact h5
theorem vlk_ok {x : Int32} {d : Prop} {J : Int → Prop} : ∀ (l : List (Int × Int)), vlk x d J l → l.all (fun q => decide (-1000 ≤ q.1) && decide (q.1 ≤ 1000)) = true →
    (∃ q, l.find? (fun q => q.1 == x.toInt) = some q ∧ J q.2) ∨ (l.find? (fun q => q.1 == x.toInt) = none ∧ d) := by
  intro l
  induction l with
  | nil => intro h _; exact Or.inr ⟨rfl, h⟩
  | cons q t ih =>
    intro h hb
    obtain ⟨h1, h2⟩ := h
    rw [List.all_cons, Bool.and_eq_true, Bool.and_eq_true] at hb
    by_cases e : x.toInt = q.1
    · exact Or.inl ⟨q, by rw [List.find?_cons, e]; simp, h1 (xi_toInt e)⟩
    · have e3 : (q.1 == x.toInt) = false := by
        rw [beq_eq_false_iff_ne]; exact fun h => e h.symm
      rw [List.find?_cons, e3]
      exact ih (h2 (fun e2 => e (toInt_xi e2 (of_decide_eq_true hb.1.1) (of_decide_eq_true hb.1.2)))) hb.2
theorem vcall_ok {y D z rt : Nat} {Q : Value → XM → Prop} {E : Nat → XM → Prop} {al : AL} {st : List AV} {m : XM} {k : Value → XM → Prop} {is : List Instr}
    (hc : vcal z st = true) (h : V D z (st.take (naOf z)).reverse m k E) (hl : wtL al) (hs : wtS st)
    (hk : ∀ v m', k v m' → wtS (vrv (rtOf z) v ++ st.drop (naOf z)) → vbG y (D + 1) rt Q E is al (vrv (rtOf z) v ++ st.drop (naOf z)) m') :
    ∃ (n : Nat) (r : XR) (m' : XM), (∀ (e : Nat) (w : Nat → Value), xcall (xCf n (D + 1)) [] (fun L' ls' st' σ' => xrun xK0 n (D + 1) y L' ls' st' σ') z (cvL al) (cvS st) (S0, e, w, m) (fun st' σ' => xB y n (D + 1) rt is (cvL al) st' σ') = some (r, S0, e + exn r, w, m')) ∧ vpost rt r m' Q E := by
  unfold vcal at hc
  simp only [Bool.and_eq_true] at hc
  obtain ⟨⟨⟨⟨c0, c1⟩, c2⟩, c3⟩, c4⟩ := hc
  obtain ⟨hd, bs, hm⟩ := sg_some c0
  have hna : naOf z = (sg z).1 := rfl
  have hrz : rtOf z = (sg z).2.2.2 := rfl
  generalize (sg z).1 = na at hm hna
  generalize (sg z).2.1 = ml at hm c4
  generalize (sg z).2.2.1 = rc at hm c2
  generalize (sg z).2.2.2 = rz at hm hrz
  rw [hna] at h hk c1 c2 c3 c4
  have c1 := Nat.le_of_ble_eq_true c1
  have c3 := Nat.le_of_ble_eq_true c3
  have c4 := Nat.le_of_ble_eq_true c4
  have hA : wtS (st.take na).reverse := fun v hv => hs v (List.mem_of_mem_take (List.mem_reverse.mp hv))
  have hB : wtS (st.drop na) := fun v hv => hs v (List.mem_of_mem_drop hv)
  have ea : ((cvS st).take na).reverse = cvS (st.take na).reverse := by
    unfold cvS; rw [← List.map_take, List.map_reverse]
  have eb : (cvS st).drop na = cvS (st.drop na) := by
    unfold cvS; rw [List.map_drop]
  have cond : na ≤ (cvS st).length ∧ xrecv rc S0 ((cvS st).take na).reverse = true ∧ xcat ((cvS st).drop na) ≤ 8 ∧ xcat ((cvS st).take na).reverse ≤ ml := by
    rw [ea, eb, acatS_cv, acatS_cv]
    exact ⟨by unfold cvS; rw [List.length_map]; exact c1, vrcv_ok c2 hA, c3, c4⟩
  obtain ⟨n1, r1, m1, g1, g2⟩ := VL_to (h hA) hrz (vargs_wt hA 0) (fun v hv => by cases hv)
  cases r1 with
  | inr x =>
    refine ⟨n1, .inr x, m1, fun e w => ?_, g2⟩
    unfold xcall
    rw [hm]
    dsimp only
    rw [if_pos cond]
    have := g1 e w
    rw [← vargs_cv, ← ea] at this
    have e3 : xCf n1 (D + 1) z ((cvS st).take na).reverse (S0, e, w, m) = some (Sum.inr x, S0, e + 1, w, m1) := this
    rw [e3]; rfl
  | inl v =>
    obtain ⟨g3, g4⟩ := g2
    obtain ⟨v1, v2⟩ := vrv_ok g3
    rw [hrz] at hk
    have hw : wtS (vrv rz (v.getD .null) ++ st.drop na) := fun u hu => by
      rcases List.mem_append.mp hu with hu | hu
      · exact v2 u hu
      · exact hB u hu
    obtain ⟨n2, r2, m2, f1, f2⟩ := hk _ _ g4 hw
    refine ⟨max n1 n2, r2, m2, fun e w => ?_, f2⟩
    unfold xcall
    rw [hm]
    dsimp only
    rw [if_pos cond]
    have := g1 e w
    rw [← vargs_cv, ← ea] at this
    have e3 : xCf n1 (D + 1) z ((cvS st).take na).reverse (S0, e, w, m) = some (Sum.inl v, S0, e, w, m1) := this
    rw [xCf_le (Nat.le_max_left n1 n2) e3]
    dsimp only
    rw [if_pos (Or.inl rfl), eb, ← v1]
    have := xB_le (Nat.le_max_right n1 n2) (f1 e w)
    have e5 : cvS (vrv rz (v.getD .null) ++ st.drop na) = cvS (vrv rz (v.getD .null)) ++ cvS (st.drop na) := by
      unfold cvS; rw [List.map_append]
    rw [e5] at this
    exact this
theorem vblk_ok {y na ml rc rt : Nat} {bs : List XB} (hm : xmt y = some (na, ml, rc, rt, [], bs)) {D : Nat} {Q : Value → XM → Prop} {E : Nat → XM → Prop} :
    ∀ (is : List Instr) (al : AL) (st : List AV) (m : XM), vblk D y Q E is al st m → wtL al → wtS st → vbG y D rt Q E is al st m := by
  have hrt : rtOf y = rt := rtOf_of hm
  intro is
  induction is with
  | nil => intro al st m h; exact h.elim
  | cons i is ih =>
    intro al st m h hl hs
    by_cases hone : vone i al st m (fun al' st' m' => vblk D y Q E is al' st' m')
    · obtain ⟨al', st', m', h1, h2, h3, h4⟩ := vone_ok hone hl hs
      obtain ⟨n, r, m2, h5, h6⟩ := ih al' st' m' h4 h2 h3
      refine ⟨n, r, m2, fun e w => ?_, h6⟩
      have h7 := h1 e w
      have h8 := h5 e w
      unfold xB at h8 ⊢
      cases i <;> first
        | (unfold xone at h7; cases h7; done)
        | (unfold xblk; dsimp only; rw [h7]; exact h8)
    · cases i
      case goto L =>
        obtain ⟨n, r, m2, h5, h6⟩ := VL_to h hrt hl hs
        exact ⟨n, r, m2, h5, h6⟩
      case goto_w L =>
        obtain ⟨n, r, m2, h5, h6⟩ := VL_to h hrt hl hs
        exact ⟨n, r, m2, h5, h6⟩
      case ifCond c L =>
        unfold vblk at h
        dsimp only at h
        split at h
        · exact vbr_ok (tt := fun n e w => xrun xK0 n D y L.toNat _ _ _) (ff := fun n e w => xB y n D rt is _ _ _) (fun h => VL_to h hrt hl (wtS_tl hs)) (fun h => ih _ _ _ h hl (wtS_tl hs)) h
        · exact h.elim
      case if_icmp c L =>
        unfold vblk at h
        dsimp only at h
        split at h
        · exact vbr_ok (tt := fun n e w => xrun xK0 n D y L.toNat _ _ _) (ff := fun n e w => xB y n D rt is _ _ _) (fun h => VL_to h hrt hl (wtS_tl (wtS_tl hs))) (fun h => ih _ _ _ h hl (wtS_tl (wtS_tl hs))) h
        · exact h.elim
      case ifnull L =>
        unfold vblk at h
        dsimp only at h
        split at h
        · exact ih _ _ _ h hl (wtS_tl hs)
        · exact h.elim
      case tableswitch d lo hi offs =>
        unfold vblk at h
        dsimp only at h
        split at h
        · rename_i x r
          split at h
          · rename_i hb
            rw [Bool.and_eq_true, Bool.and_eq_true] at hb
            obtain ⟨⟨b1, b2⟩, b3⟩ := hb
            have b1 := of_decide_eq_true b1
            have b2 := of_decide_eq_true b2
            have b3 := of_decide_eq_true b3
            obtain ⟨h1, h2⟩ := vsw_ok _ _ h b2 (by omega)
            by_cases hx : lo ≤ x.toInt ∧ x.toInt ≤ hi
            · obtain ⟨L, h3, h4⟩ := h1 ⟨hx.1, by omega⟩
              obtain ⟨n, r9, m2, h5, h6⟩ := VL_to h4 hrt hl (wtS_tl hs)
              refine ⟨n, r9, m2, fun e w => ?_, h6⟩
              show (if lo ≤ x.toInt ∧ x.toInt ≤ hi then (match offs[(x.toInt - lo).toNat]? with | some L => xrun xK0 n D y L.toNat (cvL al) (cvS r) (S0, e, w, m) | none => none) else xrun xK0 n D y d.toNat (cvL al) (cvS r) (S0, e, w, m)) = _
              rw [if_pos hx]
              rw [Array.getElem?_toList] at h3
              rw [h3]
              exact h5 e w
            · obtain ⟨n, r9, m2, h5, h6⟩ := VL_to (h2 (fun h => hx ⟨h.1, by omega⟩)) hrt hl (wtS_tl hs)
              refine ⟨n, r9, m2, fun e w => ?_, h6⟩
              show (if lo ≤ x.toInt ∧ x.toInt ≤ hi then (match offs[(x.toInt - lo).toNat]? with | some L => xrun xK0 n D y L.toNat (cvL al) (cvS r) (S0, e, w, m) | none => none) else xrun xK0 n D y d.toNat (cvL al) (cvS r) (S0, e, w, m)) = _
              rw [if_neg hx]
              exact h5 e w
          · exact h.elim
        · exact h.elim
      case lookupswitch d ps =>
        unfold vblk at h
        dsimp only at h
        split at h
        · rename_i x r
          split at h
          · rename_i hb
            rcases vlk_ok _ h hb with ⟨q, h3, h4⟩ | ⟨h3, h4⟩
            · obtain ⟨n, r9, m2, h5, h6⟩ := VL_to h4 hrt hl (wtS_tl hs)
              refine ⟨n, r9, m2, fun e w => ?_, h6⟩
              show (match ps.toList.find? (fun q => q.1 == x.toInt) with | some (_, L) => xrun xK0 n D y L.toNat (cvL al) (cvS r) (S0, e, w, m) | none => xrun xK0 n D y d.toNat (cvL al) (cvS r) (S0, e, w, m)) = _
              rw [h3]
              exact h5 e w
            · obtain ⟨n, r9, m2, h5, h6⟩ := VL_to h4 hrt hl (wtS_tl hs)
              refine ⟨n, r9, m2, fun e w => ?_, h6⟩
              show (match ps.toList.find? (fun q => q.1 == x.toInt) with | some (_, L) => xrun xK0 n D y L.toNat (cvL al) (cvS r) (S0, e, w, m) | none => xrun xK0 n D y d.toNat (cvL al) (cvS r) (S0, e, w, m)) = _
              rw [h3]
              exact h5 e w
          · exact h.elim
        · exact h.elim
      case ireturn =>
        unfold vblk at h
        dsimp only at h
        split at h
        · rename_i v
          rw [hrt] at h
          split at h
          · exact ⟨0, .inl (some (.int v)), m, fun e w => rfl, ⟨v, rfl⟩, h⟩
          · exact ⟨0, .inl (some (.int v)), m, fun e w => if_pos h.1, ⟨v, rfl⟩, h.2⟩
          · exact ⟨0, .inl (some (.int v)), m, fun e w => if_pos h.1, ⟨v, rfl⟩, h.2⟩
          · exact ⟨0, .inl (some (.int v)), m, fun e w => if_pos h.1, ⟨v, rfl⟩, h.2⟩
          · exact h.elim
        · exact h.elim
      case lreturn =>
        unfold vblk at h
        dsimp only at h
        split at h
        · rename_i v
          split at h
          · rename_i hb
            rw [hrt] at hb
            have hb := Nat.eq_of_beq_eq_true hb
            subst hb
            exact ⟨0, .inl (some (.long v)), m, fun e w => rfl, ⟨v, rfl⟩, h⟩
          · exact h.elim
        · exact h.elim
      case freturn =>
        unfold vblk at h
        dsimp only at h
        split at h
        · rename_i v
          split at h
          · rename_i hb
            rw [hrt] at hb
            have hb := Nat.eq_of_beq_eq_true hb
            subst hb
            exact ⟨0, .inl (some (.float v)), m, fun e w => rfl, ⟨v, rfl⟩, h⟩
          · exact h.elim
        · exact h.elim
      case dreturn =>
        unfold vblk at h
        dsimp only at h
        split at h
        · rename_i v
          split at h
          · rename_i hb
            rw [hrt] at hb
            have hb := Nat.eq_of_beq_eq_true hb
            subst hb
            exact ⟨0, .inl (some (.double v)), m, fun e w => rfl, ⟨v, rfl⟩, h⟩
          · exact h.elim
        · exact h.elim
      case areturn =>
        unfold vblk at h
        dsimp only at h
        split at h
        · rename_i kd a
          split at h
          · rename_i hb
            rw [hrt, Bool.and_eq_true] at hb
            have hb1 := Nat.eq_of_beq_eq_true hb.1
            have hb2 := Nat.eq_of_beq_eq_true hb.2
            subst hb1
            obtain ⟨hq1, hq2⟩ : wt (.inr (kd, a)) := wtS_hd hs
            exact ⟨0, .inl (some (.ref a)), m, fun e w => rfl, ⟨a, rfl, by rw [hq1, hb2]⟩, h⟩
          · exact h.elim
        · exact h.elim
      case return_ =>
        unfold vblk at h
        dsimp only at h
        split at h
        · split at h
          · rename_i hb
            rw [hrt] at hb
            have hb := Nat.eq_of_beq_eq_true hb
            subst hb
            exact ⟨0, .inl none, m, fun e w => rfl, rfl, h⟩
          · exact h.elim
        · exact h.elim
      case checkcast x =>
        unfold vblk at h
        dsimp only at h
        split at h
        · exact ⟨0, .inr x, m, fun e w => rfl, h⟩
        · exact h.elim
      case invokevirtual z =>
        unfold vblk at h
        dsimp only at h
        split at h
        · rename_i hc
          cases D with
          | zero => exact h.elim
          | succ D => exact vcall_ok hc h hl hs (fun v m' hk hw => ih _ _ _ hk hl hw)
        · exact h.elim
      case invokespecial z =>
        unfold vblk at h
        dsimp only at h
        split at h
        · rename_i hc
          cases D with
          | zero => exact h.elim
          | succ D => exact vcall_ok hc h hl hs (fun v m' hk hw => ih _ _ _ hk hl hw)
        · exact h.elim
      case invokestatic z =>
        unfold vblk at h
        dsimp only at h
        split at h
        · rename_i hc
          cases D with
          | zero => exact h.elim
          | succ D => exact vcall_ok hc h hl hs (fun v m' hk hw => ih _ _ _ hk hl hw)
        · exact h.elim
      all_goals exact absurd h hone
/-- a label: its block's conditions -/
theorem VL_at {y L na ml rc rt : Nat} {lv : List Nat} {is : List Instr} {bs : List XB} (hm : xmt y = some (na, ml, rc, rt, [], bs)) (hb : bs[L]? = some (lv, is)) {D : Nat} {al : AL} {st : List AV} {m : XM} {Q : Value → XM → Prop} {E : Nat → XM → Prop}
    (h : vblk D y Q E is (anorm lv al) st m) : VL D y L al st m Q E := by
  intro hl hs
  obtain ⟨n, r, m', h1, h2⟩ := vblk_ok hm is _ _ _ h (anorm_wt hl lv) hs
  have hrt : rtOf y = rt := rtOf_of hm
  rw [hrt]
  refine ⟨n + 1, r, m', fun e w => ?_, h2⟩
  unfold xrun
  rw [hm]
  dsimp only
  rw [hb]
  dsimp only
  rw [anorm_cv]
  exact h1 e w
theorem V_of {D y : Nat} {args : List AV} {m : XM} {Q : Value → XM → Prop} {E : Nat → XM → Prop} (h : VL D y 0 (vargs 0 args) [] m Q E) : V D y args m Q E := fun _ => h
theorem vpost_mono {rt : Nat} {r : XR} {m : XM} {Q Q' : Value → XM → Prop} {E E' : Nat → XM → Prop} (h : vpost rt r m Q E) (hQ : ∀ v m, Q v m → Q' v m) (hE : ∀ x m, E x m → E' x m) : vpost rt r m Q' E' := by
  cases r with
  | inl v => exact ⟨h.1, hQ _ _ h.2⟩
  | inr x => exact hE _ _ h
theorem VL_mono {D y L : Nat} {al : AL} {st : List AV} {m : XM} {Q Q' : Value → XM → Prop} {E E' : Nat → XM → Prop} (h : VL D y L al st m Q E) (hQ : ∀ v m, Q v m → Q' v m) (hE : ∀ x m, E x m → E' x m) : VL D y L al st m Q' E' := by
  intro hl hs
  obtain ⟨n, r, m', h1, h2⟩ := h hl hs
  exact ⟨n, r, m', h1, vpost_mono h2 hQ hE⟩
theorem V_mono {D y : Nat} {args : List AV} {m : XM} {Q Q' : Value → XM → Prop} {E E' : Nat → XM → Prop} (h : V D y args m Q E) (hQ : ∀ v m, Q v m → Q' v m) (hE : ∀ x m, E x m → E' x m) : V D y args m Q' E' :=
  fun hw => VL_mono (h hw) hQ hE

