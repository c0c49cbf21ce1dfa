/-! A run of X is a run of the machine. -/
section XMain
variable {p : Program} {l : Launch} {e : Env} {R : Room} {s : State} {m : MethodId} {args : Array Value} {below : List Frame} {meth : Method} {c : Code} {Q : State → Prop} {D : va_G} {cA : Nat → ClassId} {A : Nat → Prop} {sv : Value} {adc : Nat → Nat} {y bC bS pc : Nat}
theorem xGo_call {J : Nat → XL → List Value → XS → XO} {Cc : Nat → List Value → XS → XO} {ls : XL} {st : List Value} {σ σ' : XS} {r : XR} {y' : Nat} {k : List Value → XS → XO}
    (C : xCx p s m args meth c D cA A sv adc (yown y) (ycc y) (yml y) (xnm y))
    (hmC : ∀ (y : Nat) (args : List Value) (σ : XS) (r : XR) (σ' : XS), Cc y args σ = some (r, σ') → xle σ σ')
    (hmk : ∀ (st : List Value) (σ : XS) (r : XR) (σ' : XS), k st σ = some (r, σ') → xle σ σ')
    (hrun : ∀ (na ml rc rt : Nat) (bs : List XB) (v1 : Option Value) (σ1 : XS) (ad : Nat → Nat) (H : Heap) (locs : List Loc) (lsA : Array Slot), xmt y' = some (na, ml, rc, rt, [], bs) → na ≤ st.length → xrecv rc σ.1 (st.take na).reverse = true → xcat (st.drop na) ≤ 8 → xcat (st.take na).reverse ≤ ml → Cc y' (st.take na).reverse σ = some (.inl v1, σ1) →
      xWf D cA A s adc ad σ H locs → lsA.size = yml y → nC σ - bC + (nC σ1 - nC σ) ≤ R.cells ∧ nS σ - bS + (nS σ1 - nS σ) ≤ R.slots →
      ∃ aa, va_Run p l e R s m args below meth c H locs (nC σ - bC) (nS σ - bS) (nC σ1 - nC σ) (nS σ1 - nS σ) (F0 m pc lsA (st.map (xre ad sv))) ((st.drop na).map (xre ad sv)) (xQc D cA A sv adc ad σ σ1 v1 aa) A)
    (hy' : xyok y' = true)
    (hk : ∀ (st' : List Value) (σ1 : XS), k st' σ1 = some (r, σ') → xGo p l e R s m args below meth c Q D cA A sv adc y bC bS (pc + 3) ls st' σ1 r σ')
    (h : xcall Cc [] J y' ls st σ k = some (r, σ')) : xGo p l e R s m args below meth c Q D cA A sv adc y bC bS pc ls st σ r σ' := by
  intro ad H locs lsA hW hl b1 b2 b3 b4 hret hinl
  unfold xcall at h
  obtain ⟨na, ml, rc, rt, bs, hm, -⟩ := yok_spec hy'
  rw [hm] at h
  dsimp only at h
  split at h
  · rename_i hc4
    obtain ⟨c1, c2, c3, c4⟩ := hc4
    cases hC : Cc y' (st.take na).reverse σ with
    | none => rw [hC] at h; cases h
    | some z1 =>
      obtain ⟨r1, σ1⟩ := z1
      rw [hC] at h
      have m1 : xle σ σ1 := hmC _ _ _ _ _ hC
      have m1a := m1.2.1
      have m1b := m1.2.2
      have hnc : nC σ - bC + (nC σ1 - nC σ) = nC σ1 - bC := by omega
      have hns : nS σ - bS + (nS σ1 - nS σ) = nS σ1 - bS := by omega
      cases r1 with
      | inl v =>
        dsimp only at h
        split at h
        · rename_i hcond
          have m2 : xle σ1 σ' := hmk _ _ _ _ h
          have m2a := m2.2.1
          have m2b := m2.2.2
          obtain ⟨aa, run⟩ := hrun na ml rc rt bs v σ1 ad H locs lsA hm c1 c2 c3 c4 hC hW hl.1 ⟨by omega, by omega⟩
          refine x_after run hW (fun ad' H' locs' hW' hx => ?_)
          rw [hnc, hns]
          have hall : (∀ q ∈ ls, xre ad' sv q.2 = xre ad sv q.2) ∧ ∀ q ∈ st.drop na, xre ad' sv q = xre ad sv q := by
            rcases hcond with hq | ⟨q1, q2⟩
            · have e2 : ad' = ad := funext fun a => hx a (by omega)
              subst e2
              exact ⟨fun _ _ => rfl, fun _ _ => rfl⟩
            · have hag : ∀ a, (a < σ.1.length ∨ 1000000 ≤ a) → ad' a = ad a := by
                intro a ha
                rcases ha with ha | ha
                · exact hx a (Or.inl ha)
                · rw [hW'.2.2.2 a ha, hW.2.2.2 a ha]
              exact ⟨fun q hq => xre_oke hag (List.all_eq_true.mp q1 q hq), fun q hq => xre_oke hag (List.all_eq_true.mp q2 q hq)⟩
          have hl' : lv_has lsA (yml y) (xreL ad' sv ls) := by
            have e2 : xreL ad' sv ls = xreL ad sv ls := List.map_congr_left (fun q hq => by rw [hall.1 q hq])
            rw [e2]; exact hl
          have := hk _ _ h ad' H' locs' lsA hW' hl' (by omega) (by omega) b3 b4 (hret.step hx m1 m2) hinl
          rw [List.map_append, List.map_congr_left hall.2] at this
          cases v <;> exact this
        · cases h
      | inr E =>
        dsimp only at h
        rw [show List.find? (fun h : Nat × Nat × Nat => h.1 == E) [] = none from rfl] at h
        dsimp only at h
        split at h
        · cases h
          obtain ⟨v, hv⟩ := hinl
          cases hv
        · cases h
  · cases h
set_option maxHeartbeats 2000000 in
theorem xblk_ok {d : Nat} {K : XK} {rt0 : Nat} {J : Nat → XL → List Value → XS → XO} {Cc : Nat → List Value → XS → XO}
    (C : xCx p s m args meth c D cA A sv adc (yown y) (ycc y) (yml y) (xnm y)) (hsc : xSc K adc A s) (hR : d + 1 ≤ R.frames ∧ (d + 1) * 40 ≤ R.locals)
    (hz : ∃ z, xmt y = some z ∧ z.2.2.2.1 = rt0) (hrk : rt0 ≤ 8)
    (hY : ∀ y, yr y = true → xyok y = true ∧ xyw y = true)
    (hmJ : ∀ (L : Nat) (ls : XL) (st : List Value) (σ : XS) (r : XR) (σ' : XS), J L ls st σ = some (r, σ') → xle σ σ') (hmC : ∀ (y : Nat) (args : List Value) (σ : XS) (r : XR) (σ' : XS), Cc y args σ = some (r, σ') → xle σ σ')
    (hJ : ∀ (L : Nat) (ls : XL) (st : List Value) (σ : XS) (r : XR) (σ' : XS), J L ls st σ = some (r, σ') → ∀ pc2, (ypcs y)[L]? = some pc2 → xGo p l e R s m args below meth c Q D cA A sv adc y bC bS pc2 ls st σ r σ')
    (hC : ∀ (y' : Nat) (as : List Value) (σ : XS) (v : Option Value) (σ' : XS), yr y' = true → Cc y' as σ = some (.inl v, σ') → xcat as ≤ yml y' → ∃ d', d = d' + 1 ∧ ∀ ad, xMt K l D cA A sv adc ad d' y' as σ v σ') :
    ∀ (is : List Instr) (pc : Nat) (ls : XL) (st : List Value) (σ : XS) (r : XR) (σ' : XS), xchk (yown y) (yml y) (xinit y) (ycc y) (ypcs y) pc is = true → xblk K rt0 [] J Cc is ls st σ = some (r, σ') → xGo p l e R s m args below meth c Q D cA A sv adc y bC bS pc ls st σ r σ' := by
  intro is
  induction is with
  | nil => intro pc ls st σ r σ' _ h; cases h
  | cons i is ih =>
    intro pc ls st σ r σ' hc h
    have hmk : ∀ (ls : XL) (st : List Value) (σ : XS) (r : XR) (σ' : XS), xblk K rt0 [] J Cc is ls st σ = some (r, σ') → xle σ σ' := fun ls => xblk_mono hmJ hmC is ls
    cases hctl : xctl i with
    | false =>
      rw [xblk_simple hctl] at h
      rw [xchk_simple hctl] at hc
      split at hc
      · rename_i a n hdec
        simp only [Bool.and_eq_true, decide_eq_true_eq] at hc
        split at h
        · rename_i ls1 st1 σ1 hone
          exact xGo_one C hsc ⟨by omega, by omega⟩ hc.1 hdec hone (hmk _ _ _ _ _ h) (ih _ _ _ _ _ _ hc.2 h)
        · cases h
      · cases hc
    | true =>
      cases i <;> (try (cases hctl; done))
      case goto L =>
        unfold xchk at hc; dsimp only at hc
        unfold xblk at h; dsimp only at h
        split at hc
        · rename_i off hdec
          obtain ⟨t, ht1, ht2⟩ := xtgt_ok hc
          exact xGo_goto C hdec ht2 (hJ _ _ _ _ _ _ h t ht1)
        · cases hc
      case goto_w L =>
        unfold xchk at hc; dsimp only at hc
        unfold xblk at h; dsimp only at h
        exact hJ _ _ _ _ _ _ h pc (by simpa using hc)
      case ifCond cd L =>
        unfold xchk at hc; dsimp only at hc
        unfold xblk at h; dsimp only at h
        split at hc
        · rename_i cd' off hdec
          simp only [Bool.and_eq_true, decide_eq_true_eq] at hc
          obtain ⟨⟨rfl, hc2⟩, hc3⟩ := hc
          obtain ⟨t, ht1, ht2⟩ := xtgt_ok hc2
          split at h
          · rename_i x rs
            exact xGo_if C hdec ht2 h (fun q => hJ _ _ _ _ _ _ q t ht1) (fun q => ih _ _ _ _ _ _ hc3 q)
          · cases h
        · cases hc
      case if_icmp cd L =>
        unfold xchk at hc; dsimp only at hc
        unfold xblk at h; dsimp only at h
        split at hc
        · rename_i cd' off hdec
          simp only [Bool.and_eq_true, decide_eq_true_eq] at hc
          obtain ⟨⟨rfl, hc2⟩, hc3⟩ := hc
          obtain ⟨t, ht1, ht2⟩ := xtgt_ok hc2
          split at h
          · exact xGo_icmp C hdec ht2 h (fun q => hJ _ _ _ _ _ _ q t ht1) (fun q => ih _ _ _ _ _ _ hc3 q)
          · cases h
        · cases hc
      case ifnull L =>
        unfold xchk at hc; dsimp only at hc
        unfold xblk at h; dsimp only at h
        split at hc
        · rename_i off hdec
          split at h
          · exact xGo_ifnull C hdec (ih _ _ _ _ _ _ hc h)
          · cases h
        · cases hc
      case ifnonnull L =>
        unfold xchk at hc; dsimp only at hc
        unfold xblk at h; dsimp only at h
        split at hc
        · rename_i off hdec
          obtain ⟨t, ht1, ht2⟩ := xtgt_ok hc
          split at h
          · exact xGo_ifnonnull C hdec ht2 (hJ _ _ _ _ _ _ h t ht1)
          · cases h
        · cases hc
      case if_acmp eq L =>
        unfold xchk at hc; dsimp only at hc
        unfold xblk at h; dsimp only at h
        split at hc
        · rename_i e' off hdec
          simp only [Bool.and_eq_true, decide_eq_true_eq] at hc
          obtain ⟨rfl, hc2⟩ := hc
          obtain ⟨t, ht1, ht2⟩ := xtgt_ok hc2
          split at h
          · split at h
            · rename_i hcc
              obtain ⟨g1, g2, g3, rfl⟩ := hcc
              exact xGo_acmp C hdec ht2 g1 g2 g3 (hJ _ _ _ _ _ _ h t ht1)
            · cases h
          · cases h
        · cases hc
      case tableswitch d lo hi offs =>
        unfold xchk at hc; dsimp only at hc
        unfold xblk at h; dsimp only at h
        split at hc
        · rename_i d' lo' hi' offs' len hdec
          simp only [Bool.and_eq_true, beq_iff_eq] at hc
          obtain ⟨⟨⟨⟨rfl, rfl⟩, hc3⟩, hc4⟩, hc5⟩ := hc
          split at h
          · rename_i x rs
            split at h
            · rename_i hin
              split at h
              · rename_i L hL
                have hlt := (Array.getElem?_eq_some_iff.mp hL).1
                have ho' : ∃ off, offs'[(x.toInt - lo).toNat]? = some off := ⟨offs'[(x.toInt - lo).toNat]'(hc4 ▸ hlt), Array.getElem?_eq_getElem (hc4 ▸ hlt)⟩
                obtain ⟨off, hoff⟩ := ho'
                have hzip : (offs.toList.zip offs'.toList)[(x.toInt - lo).toNat]? = some (L, off) := by
                  rw [List.getElem?_zip_eq_some]
                  exact ⟨by rw [Array.getElem?_toList]; exact hL, by rw [Array.getElem?_toList]; exact hoff⟩
                obtain ⟨t, ht1, ht2⟩ := xtgt_ok (List.all_eq_true.mp hc5 _ (List.mem_of_getElem? hzip))
                exact xGo_tabIn C hdec hin hoff ht2 (hJ _ _ _ _ _ _ h t ht1)
              · cases h
            · rename_i hin
              obtain ⟨t, ht1, ht2⟩ := xtgt_ok hc3
              exact xGo_tabOut C hdec hin ht2 (hJ _ _ _ _ _ _ h t ht1)
          · cases h
        · cases hc
      case lookupswitch d ps =>
        unfold xchk at hc; dsimp only at hc
        unfold xblk at h; dsimp only at h
        split at hc
        · rename_i d' ps' len hdec
          simp only [Bool.and_eq_true, beq_iff_eq] at hc
          obtain ⟨⟨⟨hc1, hc2⟩, hc3⟩, hc4⟩ := hc
          have key : ∀ (l1 l2 : List (Int × Int)), l1.length = l2.length → ((l1.zip l2).all fun q => q.1.1 == q.2.1 && xtgt (ypcs y) pc q.2.2 q.1.2) = true → ∀ kx : Int,
              (∀ a L, l1.find? (fun q => q.1 == kx) = some (a, L) → ∃ off, l2.find? (fun q => q.1 == kx) = some (a, off) ∧ xtgt (ypcs y) pc off L = true) ∧ (l1.find? (fun q => q.1 == kx) = none → l2.find? (fun q => q.1 == kx) = none) := by
            intro l1
            induction l1 with
            | nil =>
              intro l2 hl _ kx
              have : l2 = [] := List.eq_nil_of_length_eq_zero hl.symm
              subst this
              exact ⟨(fun a L q => by cases q), (fun _ => rfl)⟩
            | cons a1 t1 ih1 =>
              intro l2 hl ha kx
              cases l2 with
              | nil => cases hl
              | cons a2 t2 =>
                rw [List.zip_cons_cons, List.all_cons, Bool.and_eq_true] at ha
                obtain ⟨ha1, ha2⟩ := ha
                simp only [Bool.and_eq_true, beq_iff_eq] at ha1
                simp only [List.length_cons, Nat.add_right_cancel_iff] at hl
                obtain ⟨i1, i2⟩ := ih1 t2 hl ha2 kx
                rw [List.find?_cons, List.find?_cons]
                cases hk : (a1.1 == kx) with
                | true =>
                  rw [← ha1.1, hk]
                  refine ⟨fun a L q => ?_, (fun q => by cases q)⟩
                  cases q
                  refine ⟨a2.2, ?_, ha1.2⟩
                  have h7 : a = a2.1 := ha1.1
                  show some a2 = some (a, a2.2)
                  rw [h7]
                | false =>
                  rw [← ha1.1, hk]
                  exact ⟨i1, i2⟩
          split at h
          · rename_i x rs
            obtain ⟨k1, k2⟩ := key ps.toList ps'.toList (by simpa using hc3) hc4 x.toInt
            split at h
            · rename_i a L hfd
              obtain ⟨off, hoff, hx⟩ := k1 a L hfd
              obtain ⟨t, ht1, ht2⟩ := xtgt_ok hx
              exact xGo_look C hdec hc2 (Op.lookupswitch.offset_some hoff) ht2 (hJ _ _ _ _ _ _ h t ht1)
            · rename_i hfd
              obtain ⟨t, ht1, ht2⟩ := xtgt_ok hc1
              exact xGo_look C hdec hc2 (Op.lookupswitch.offset_none (k2 hfd)) ht2 (hJ _ _ _ _ _ _ h t ht1)
          · cases h
        · cases hc
      case ireturn =>
        unfold xchk at hc; dsimp only at hc
        unfold xblk at h; dsimp only at h
        rw [decide_eq_true_eq] at hc
        split at h
        · rename_i v
          split at h
          · rename_i hv
            cases h
            have hi : rt0 = 1 ∨ rt0 = 2 ∨ rt0 = 3 ∨ rt0 = 4 := by
              match rt0, hv with
              | 1, _ => exact Or.inl rfl
              | 2, _ => exact Or.inr (Or.inl rfl)
              | 3, _ => exact Or.inr (Or.inr (Or.inl rfl))
              | 4, _ => exact Or.inr (Or.inr (Or.inr rfl))
            rcases hi with rfl | rfl | rfl | rfl <;> exact xGo_ret (v := some (.int v)) C hz hv hc
          · cases h
        · cases h
      case lreturn =>
        unfold xchk at hc; dsimp only at hc
        unfold xblk at h; dsimp only at h
        rw [decide_eq_true_eq] at hc
        split at h
        · rename_i v
          split at h
          · rename_i hv
            cases h; subst hv
            exact xGo_ret (v := some (.long v)) C hz trivial hc
          · cases h
        · cases h
      case freturn =>
        unfold xchk at hc; dsimp only at hc
        unfold xblk at h; dsimp only at h
        rw [decide_eq_true_eq] at hc
        split at h
        · rename_i v
          split at h
          · rename_i hv
            cases h; subst hv
            exact xGo_ret (v := some (.float v)) C hz trivial hc
          · cases h
        · cases h
      case dreturn =>
        unfold xchk at hc; dsimp only at hc
        unfold xblk at h; dsimp only at h
        rw [decide_eq_true_eq] at hc
        split at h
        · rename_i v
          split at h
          · rename_i hv
            cases h; subst hv
            exact xGo_ret (v := some (.double v)) C hz trivial hc
          · cases h
        · cases h
      case areturn =>
        unfold xchk at hc; dsimp only at hc
        unfold xblk at h; dsimp only at h
        rw [decide_eq_true_eq] at hc
        split at h
        · rename_i v
          split at h
          · rename_i hv
            cases h; subst hv
            exact xGo_ret (v := some (.ref v)) C hz trivial hc
          · cases h
        · cases h
      case return_ =>
        unfold xchk at hc; dsimp only at hc
        unfold xblk at h; dsimp only at h
        rw [decide_eq_true_eq] at hc
        split at h
        · split at h
          · rename_i hv
            cases h; subst hv
            exact xGo_ret (v := none) C hz trivial hc
          · cases h
        · cases h
      case checkcast E =>
        unfold xchk at hc; dsimp only at hc
        unfold xblk at h; dsimp only at h
        split at h
        · split at h
          · cases h
            exact fun _ _ _ _ _ _ _ _ _ _ _ h8 => by obtain ⟨v, hv⟩ := h8; cases hv
          · cases h
        · cases h
      case invokevirtual y' =>
        unfold xchk at hc; dsimp only at hc
        unfold xblk at h; dsimp only at h
        split at hc
        · rename_i k hdec
          simp only [Bool.and_eq_true, Bool.or_eq_true, beq_iff_eq, decide_eq_true_eq, Bool.not_eq_true'] at hc
          obtain ⟨⟨⟨⟨hc1, hc2⟩, hc3⟩, hc4⟩, hc6⟩ := hc
          have hlink := fdM_ok hc1
          rw [if_pos rfl] at hlink
          obtain ⟨a1, a2⟩ := hY y' hc4
          refine xGo_call (k := fun st' σ' => xblk K rt0 [] J Cc is ls st' σ') C hmC (fun st σ r σ' q => hmk ls st σ r σ' q) ?_ a1 (fun st' σ1 q => ih _ _ _ _ _ _ hc6 q) h
          intro na ml rc rt bs v1 σ1 ad H locs lsA g1 g2 g3 g4 g5 g6 g7 g8 g9
          obtain ⟨na1, ml1, rc1, rt1, bs1, hm1, u1, -⟩ := yok_spec a1
          rw [g1] at hm1; cases hm1
          obtain ⟨d', hd1, hM⟩ := hC y' _ _ _ _ hc4 g6 (by rw [← u1]; exact g5)
          cases hup : xup y' with
          | false => exact x_runV C hsc g7 a1 a2 g1 hc2 hup hc3 (hM ad) ⟨by omega, by omega⟩ hlink g2 g3 g4 hdec g8 g9
          | true => exact x_runU C hsc g7 a1 a2 g1 hc2 hup (hY _ (xup_rc hup g1).2).2 (hM ad) ⟨by omega, by omega⟩ hlink g2 g3 g4 hdec g8 g9
        · cases hc
      case invokespecial y' =>
        unfold xchk at hc; dsimp only at hc
        unfold xblk at h; dsimp only at h
        split at hc
        · rename_i k hdec
          simp only [Bool.and_eq_true, Bool.or_eq_true, beq_iff_eq, decide_eq_true_eq, Bool.not_eq_true'] at hc
          obtain ⟨⟨⟨hc1, hc2⟩, hc4⟩, hc6⟩ := hc
          obtain ⟨⟨y9, nest⟩, hfd, hy9⟩ := Option.map_eq_some_iff.mp hc1
          dsimp only at hy9
          subst hy9
          obtain ⟨a1, a2⟩ := hY y9 hc4
          refine xGo_call (k := fun st' σ' => xblk K rt0 [] J Cc is ls st' σ') C hmC (fun st σ r σ' q => hmk ls st σ r σ' q) ?_ a1 (fun st' σ1 q => ih _ _ _ _ _ _ hc6 q) h
          intro na ml rc rt bs v1 σ1 ad H locs lsA g1 g2 g3 g4 g5 g6 g7 g8 g9
          obtain ⟨na1, ml1, rc1, rt1, bs1, hm1, u1, -⟩ := yok_spec a1
          rw [g1] at hm1; cases hm1
          obtain ⟨d', hd1, hM⟩ := hC y9 _ _ _ _ hc4 g6 (by rw [← u1]; exact g5)
          cases hi : xinit y9 with
          | true => exact x_runI C hsc g7 a1 a2 g1 (yr_lt hc4) hi (hM ad) ⟨by omega, by omega⟩ hfd g2 g3 g4 hdec g8 g9
          | false =>
            rcases hc2 with q | ⟨⟨⟨q1, q2⟩, q3⟩, q4⟩
            · rw [hi] at q; cases q
            · have hlink := fdM_ok q3
              rw [if_pos rfl, q4] at hlink
              exact x_runSU C hsc g7 a1 a2 g1 q1 hi (hM ad) ⟨by omega, by omega⟩ q2 hlink g2 g3 g4 hdec g8 g9
        · cases hc
      case invokestatic y' =>
        unfold xchk at hc; dsimp only at hc
        unfold xblk at h; dsimp only at h
        split at hc
        · rename_i k hdec
          simp only [Bool.and_eq_true, Bool.or_eq_true, beq_iff_eq, decide_eq_true_eq, Bool.not_eq_true'] at hc
          obtain ⟨⟨⟨hc1, hc2⟩, hc4⟩, hc6⟩ := hc
          obtain ⟨⟨y9, nest⟩, hfd, hy9⟩ := Option.map_eq_some_iff.mp hc1
          dsimp only at hy9
          subst hy9
          obtain ⟨a1, a2⟩ := hY y9 hc4
          refine xGo_call (k := fun st' σ' => xblk K rt0 [] J Cc is ls st' σ') C hmC (fun st σ r σ' q => hmk ls st σ r σ' q) ?_ a1 (fun st' σ1 q => ih _ _ _ _ _ _ hc6 q) h
          intro na ml rc rt bs v1 σ1 ad H locs lsA g1 g2 g3 g4 g5 g6 g7 g8 g9
          obtain ⟨na1, ml1, rc1, rt1, bs1, hm1, u1, -⟩ := yok_spec a1
          rw [g1] at hm1; cases hm1
          obtain ⟨d', hd1, hM⟩ := hC y9 _ _ _ _ hc4 g6 (by rw [← u1]; exact g5)
          exact x_runS C hsc g7 a1 a2 g1 hc2 (hM ad) ⟨by omega, by omega⟩ hfd g2 g4 hdec g8 g9
        · cases hc
end XMain
