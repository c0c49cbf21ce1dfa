/-! Calls inside a body, throws, handlers. -/
theorem xhnd_split {own nL : Nat} {b : ByteArray} {pcs : List Nat} {E : Nat} : ∀ (hd : List (Nat × Nat × Nat)) (hh : List (Nat × Nat × Nat × Nat)), hd.length = hh.length → (hd.zip hh).all (xhok own nL b pcs) = true → ∀ h, hd.find? (fun h => h.1 == E) = some h →
    ∃ pre x suf, hh = pre ++ x :: suf ∧ xhok own nL b pcs (h, x) = true ∧ h.1 = E ∧ ∀ z ∈ pre, ∃ z', xhok own nL b pcs (z', z) = true ∧ z'.1 ≠ E := by
  intro hd
  induction hd with
  | nil => intro hh _ _ h hf; cases hf
  | cons a t ih =>
    intro hh hl ha h hf
    cases hh with
    | nil => cases hl
    | cons x hh =>
      rw [List.zip_cons_cons, List.all_cons, Bool.and_eq_true] at ha
      rw [List.find?_cons] at hf
      cases hc : (a.1 == E) with
      | true =>
        rw [hc] at hf
        cases hf
        exact ⟨[], x, hh, rfl, ha.1, by simpa using hc, fun z hz => by cases hz⟩
      | false =>
        rw [hc] at hf
        simp only [List.length_cons, Nat.add_right_cancel_iff] at hl
        obtain ⟨pre, x', suf, e1, e2, e3, e4⟩ := ih hh hl ha.2 h hf
        refine ⟨x :: pre, x', suf, by rw [e1]; rfl, e2, e3, fun z hz => ?_⟩
        rcases List.mem_cons.mp hz with rfl | hz
        · exact ⟨a, ha.1, by simpa using hc⟩
        · exact e4 z hz
theorem xhok_spec {own nL : Nat} {b : ByteArray} {pcs : List Nat} {E L x st en hp ct : Nat} (h : xhok own nL b pcs ((E, L, x), (st, en, hp, ct)) = true) : E < 3 ∧ ct ≠ 0 ∧ fdX own ct = some E ∧ x < nL ∧
    ((∃ k : Fin 4, decode b hp = .ok (.astore_n k, 1) ∧ (k : Nat) = x ∧ pcs[L]? = some (hp + 1)) ∨ (decode b hp = .ok (.astore x, 2) ∧ pcs[L]? = some (hp + 2))) := by
  unfold xhok at h
  simp only [Bool.and_eq_true, decide_eq_true_eq, Bool.not_eq_true', beq_eq_false_iff_ne, beq_iff_eq] at h
  obtain ⟨⟨⟨⟨h1, h2⟩, h3⟩, h4⟩, h5⟩ := h
  refine ⟨h1, h2, h3, h4, ?_⟩
  split at h5
  · rename_i k hk
    simp only [Bool.and_eq_true, beq_iff_eq] at h5
    exact Or.inl ⟨k, hk, h5.1, h5.2⟩
  · rename_i k hk
    simp only [Bool.and_eq_true, beq_iff_eq] at h5
    obtain ⟨rfl, h6⟩ := h5
    exact Or.inr ⟨hk, h6⟩
  · cases h5
theorem xcov_ok {hh : List (Nat × Nat × Nat × Nat)} {pc : Nat} (h : xcov hh pc = true) : ∀ x ∈ tableOf hh, covers x pc = true := by
  intro x hx
  unfold tableOf at hx
  obtain ⟨z, hz, rfl⟩ := List.mem_map.mp hx
  have := List.all_eq_true.mp h z hz
  exact this
section XExits
variable {p : Program} {l : Launch} {e : Env} {R : Room} {s : State} {m : MethodId} {args : Array Value} {below : List Frame} {meth : Method} {c : Code} {Q : State → Prop} {D : va_G} {cA : Nat → ClassId} {A : Nat → Prop} {sv : Value} {adc : Nat → Nat} {y bC bS pc : Nat}
variable {K : XK} {ls : XL} {st rs : List Value} {σ σ' : XS} {r : XR}
/-- behind a call that threw, where the method has a handler -/
theorem x_handle (C : xCx p s m args meth c D cA A sv adc (yown y) (ycc y) (yml y) (xnm y)) (htab : c.exceptionTable.toList = tableOf (yhh y)) {hd : List (Nat × Nat × Nat)} (hlen : hd.length = (yhh y).length) (hok : (hd.zip (yhh y)).all (xhok (yown y) (yml y) (ycc y) (ypcs y)) = true) (hcov : xcov (yhh y) pc = true)
    {E L x : Nat} (hf : hd.find? (fun h => h.1 == E) = some (E, L, x)) {H : Heap} {locs : List Loc} {lsA : Array Slot} {rest : List Value} {cells slots : Nat} {ad : Nat → Nat} {q : Nat} {ce : Cell} (hcell : H[q]? = some ce) (hcv : ce.vm = .none) (hcl : s.vm.findClass (xexn E) = some ce.cls) (hl : lv_has lsA (yml y) (xreL ad sv ls))
    (kk : ∀ (pc2 : Nat) (ls2 : Array Slot), (ypcs y)[L]? = some pc2 → lv_has ls2 (yml y) (xreL ad sv (xdel ls x 1)) → W p l e R s m args below meth c H locs cells slots Q (F0 m pc2 ls2 [])) : vx_W p l e R s m args below meth c H locs cells slots Q (F0 m pc lsA rest) q := by
  obtain ⟨hx, hb, hml, hown, hts, hK, hA, hE, hin⟩ := C
  obtain ⟨pre, z, suf, e1, e2, e3, e4⟩ := xhnd_split hd (yhh y) hlen hok _ hf
  obtain ⟨zs, ze, zh, zc⟩ := z
  obtain ⟨g1, g2, g3, g4, g5⟩ := xhok_spec e2
  have htb : c.exceptionTable.toList = tableOf pre ++ ⟨zs, ze, zh, zc⟩ :: tableOf suf := by
    rw [htab, e1]; unfold tableOf; rw [List.map_append, List.map_cons]
  have hcv2 := xcov_ok hcov
  have hsv := hE.2.2.2.2.2.2.2.2.2.2.2.1
  refine vx_catch (own := xow (yown y)) (name := xexn E) (E := xexn E) hown (tableOf pre) ⟨zs, ze, zh, zc⟩ (tableOf suf) htb (fun w hw => Or.inr ?_) (hcv2 _ (by rw [e1]; unfold tableOf; rw [List.map_append, List.map_cons]; exact List.mem_append_right _ List.mem_cons_self)) g2
    (hts _ (fdX_ok g3)) (va_Nw.use rfl (hE.2.2.2.2.2.2.2.2.2.1 _ (xcast_ok g1))) hcell hcv hcl ?_
  · unfold tableOf at hw
    obtain ⟨z', hz', rfl⟩ := List.mem_map.mp hw
    obtain ⟨⟨E2, L2, x2⟩, k1, k2⟩ := e4 z' hz'
    obtain ⟨s2, en2, hp2, ct2⟩ := z'
    obtain ⟨f1, f2, f3, -, -⟩ := xhok_spec k1
    exact ⟨f2, xexn E2, hts _ (fdX_ok f3), hE.2.2.2.2.2.2.2.2.2.2.1 E E2 g1 f1 (fun q => k2 q.symm)⟩
  · have hmono : ∀ lsB : Array Slot, lv_has lsB (yml y) ((x, Value.ref q) :: (xreL ad sv ls).filter (fun q => !(q.1 == x) && !(q.1 + 1 == x && q.2.category == 2))) → lv_has lsB (yml y) (xreL ad sv (xdel ls x 1)) := by
      intro lsB hB
      refine lv_mono hB (fun q hq => List.mem_cons_of_mem _ ?_)
      obtain ⟨r, hr, rfl⟩ := List.mem_map.mp hq
      obtain ⟨h1, h2⟩ := xdel_mem hr
      refine List.mem_filter.mpr ⟨List.mem_map.mpr ⟨r, h1, rfl⟩, ?_⟩
      dsimp only
      rw [xre_cat hsv]
      have h3 : r.2.category = 1 ∨ r.2.category = 2 := lv_cat r.2
      simp only [Bool.and_eq_true, Bool.not_eq_true', beq_eq_false_iff_ne, ne_eq, Bool.and_eq_false_iff]
      constructor
      · intro e; omega
      · by_cases e : r.1 + 1 = x
        · right; omega
        · left; exact e
    rcases g5 with ⟨k, d1, d2, d3⟩ | ⟨d1, d3⟩
    · exact lv_astore_n hx hb d1 d2 hl g4 rfl (fun lsB hB => kk _ lsB d3 (hmono lsB hB))
    · exact lv_astore hx hb d1 hl g4 rfl (fun lsB hB => kk _ lsB d3 (hmono lsB hB))
/-- a throw that no handler sees -/
theorem x_out (hlk : meth.locks = false) (htab : c.exceptionTable.toList = []) {ad ad' : Nat → Nat} {E : Nat} (hE3 : E < 3) (hexc : xExc s args below Q D cA A adc bC bS ad σ (.inr E) σ') {H : Heap} {locs : List Loc} {lsA : Array Slot} {rest : List Value} (hW : xWf D cA A s adc ad' σ' H locs) (hx : xext σ σ' ad ad')
    {q : Nat} {ce : Cell} (hcell : H[q]? = some ce) (hcv : ce.vm = .none) (hcl : s.vm.findClass (xexn E) = some ce.cls) : vx_W p l e R s m args below meth c H locs (nC σ' - bC) (nS σ' - bS) Q (F0 m pc lsA rest) q := by
  obtain ⟨Qc, XC, mc, ms, free, h1, h2, h3, h4, h5⟩ := hexc E rfl
  subst h1
  exact vx_out (by rw [htab]; intro x hx; cases hx) hlk hcell hcv hcl (fun t ht hv => h5 t ad' hE3 ⟨by rw [ht]; exact hW.1, hW.2.1, hW.2.2.2, hx, hW.2.2.1.F ht⟩) (fun z hz => h4 _ (hW.2.2.1.2.2 z hz)) h2 h3
/-- the throw itself -/
theorem x_throw (C : xCx p s m args meth c D cA A sv adc (yown y) (ycc y) (yml y) (xnm y)) (hl : l.stackTraces = false) (hlk : meth.locks = false) (htab : c.exceptionTable.toList = tableOf (yhh y)) (hR : 10 ≤ R.frames ∧ 100 ≤ R.locals) {E : Nat} (hh0 : yhh y = []) (hc : xchT (yown y) (ycc y) pc E = true) :
    xGo p l e R s m args below meth c Q D cA A sv adc y bC bS pc ls [] σ (.inr E) (σ.1, σ.2.1 + 1, σ.2.2.1, σ.2.2.2) := by
  intro ad H locs lsA hW h2 h3 h4 h5 h6 h7 h8
  obtain ⟨hx, hb, hml, hown, hts, hK, hA, hEn, hin⟩ := C
  unfold xchT at hc
  simp only [Bool.and_eq_true, decide_eq_true_eq, beq_iff_eq] at hc
  obtain ⟨⟨⟨⟨g1, g2⟩, g3⟩, g4⟩, g5⟩ := hc
  have ho : xow (yown y) = "BannerParade" := by rw [g1]; rfl
  rw [ho] at hown
  have hthr := xthr_ok g2
  unfold xthrE at hthr
  simp only [Bool.and_eq_true, List.all_eq_true] at hthr
  obtain ⟨⟨⟨⟨⟨⟨⟨t1, t2⟩, t3⟩, t4⟩, t5⟩, t6⟩, t7⟩, t8⟩ := hthr
  have hat : ∀ w ∈ vx_atS "BannerParade" (xthr.getD E (0, 0)).2 (xexn E) xsup, w.before args s = true := by
    intro w hw
    obtain ⟨⟨a1, a2⟩, a3⟩ := t4 w hw
    have hin9 : w ∈ lw_tbl := by
      rw [List.any_eq_true] at a1
      obtain ⟨u, hu, hu2⟩ := a1
      rw [decide_eq_true_eq] at hu2
      rw [← hu2]; exact hu
    rw [Bool.or_eq_true] at a2
    rcases a2 with a2 | a2
    · exact hts _ (List.mem_filter.mpr ⟨hin9, a2⟩)
    · have hm := hEn.2.2.2.2.2.2.2.2.2.1 w (List.mem_filter.mpr ⟨hin9, a2⟩)
      cases w with
      | declares x => exact va_Nw.use rfl hm
      | castable a b => exact va_Nw.use rfl hm
      | methodLinkNest a b c d => exact va_Nw.use rfl hm
      | fieldLinkNest a b c d e f => exact va_Nw.use rfl hm
      | _ => cases a2
  have hgood : ∀ w ∈ Cond.classLink "BannerParade" (xthr.getD E (0, 0)).1 (xexn E) :: Cond.initialized (xexn E) :: vx_atS "BannerParade" (xthr.getD E (0, 0)).2 (xexn E) xsup, vx_ot w = true := by
    intro w hw
    rcases List.mem_cons.mp hw with rfl | hw
    · exact t5
    · rcases List.mem_cons.mp hw with rfl | hw
      · exact t6
      · exact (t4 w hw).2
  obtain ⟨Qc, XC, mc, ms, free, q1, q2, q3, q4, q5⟩ := h8 E rfl
  subst q1
  have n1 : nC (σ.1, σ.2.1 + 1, σ.2.2.1, σ.2.2.2) = nC σ + 1 := by unfold nC; dsimp only; omega
  have n2 : nS (σ.1, σ.2.1 + 1, σ.2.2.1, σ.2.2.2) = nS σ + 6 := by unfold nS; dsimp only; omega
  rw [n1] at h5 q2
  rw [n2] at h6 q3
  have htb0 : c.exceptionTable.toList = [] := by rw [htab, hh0]; rfl
  have hxx : ∀ t : State, s.vm.Alike t.vm → H.size ≤ t.heap.size → (∀ q : Nat, q < H.size → t.heap[q]? = H[q]?) → XC (xexn E) s t := by
    intro t hv hsz hq
    refine q5 t ad g2 ⟨?_, hW.2.1, hW.2.2.2, fun _ _ => rfl, ?_⟩
    · exact va_P.kept hW.1 (fun k q hk => hq q.1 (hW.1 k q hk).lt)
    · obtain ⟨z1, z2, z3⟩ := hW.2.2.1
      exact ⟨Nat.le_trans z1 hsz, fun q hq1 hq2 => by rw [hq q (Nat.lt_of_lt_of_le hq1 z1)]; exact z2 q hq1 hq2⟩
  have hstr : ∀ {k j : Nat}, fdS (yown y) k = some j → vk_R "BannerParade" k (cpSx.getD j "") (adc (1000010 + j)) s := by
    intro k j hk
    have := hEn.2.2.2.2.2.2.1 _ (fdS_ok hk)
    dsimp only at this
    rw [ho] at this
    exact this
  have hz1 := hEn.2.2.2.2.2.2.2.1
  have hz2 := hEn.2.2.2.2.2.2.2.2.1
  have hfits : ∀ n ∈ xsup, Bundle.fit n = true := t8
  split at g5
  · rename_i k hk
    simp only [Bool.and_eq_true, decide_eq_true_eq] at g5
    obtain ⟨⟨s1, s2⟩, s3⟩ := g5
    obtain ⟨j, hj⟩ := Option.isSome_iff_exists.mp s1
    exact vx_throwS (names := xsup) (A := A) hx hb hl hown t7 hfits (hts _ (xat_in t1)) (hts _ (xat_in t2)) (hstr hj) hat hgood hz1 hz2 hW.2.2.1 (h2.1.trans hml.symm) g3 g4 hk s2 s3 (by rw [htb0]; intro x hx; cases hx) (by show 5 < _; omega) (by show 0 + (13 * 3 + 43) ≤ _; omega) (by omega) (by omega) hlk hxx (fun z hz => q4 _ (hW.2.2.1.2.2 z hz)) (by omega) (by omega)
  · rename_i k hk
    simp only [Bool.and_eq_true, decide_eq_true_eq] at g5
    obtain ⟨⟨s1, s2⟩, s3⟩ := g5
    obtain ⟨j, hj⟩ := Option.isSome_iff_exists.mp s1
    exact vx_throwSW (names := xsup) (A := A) hx hb hl hown t7 hfits (hts _ (xat_in t1)) (hts _ (xat_in t2)) (hstr hj) hat hgood hz1 hz2 hW.2.2.1 (h2.1.trans hml.symm) g3 g4 hk s2 s3 (by rw [htb0]; intro x hx; cases hx) (by show 5 < _; omega) (by show 0 + (13 * 3 + 43) ≤ _; omega) (by omega) (by omega) hlk hxx (fun z hz => q4 _ (hW.2.2.1.2.2 z hz)) (by omega) (by omega)
  · cases g5
end XExits
