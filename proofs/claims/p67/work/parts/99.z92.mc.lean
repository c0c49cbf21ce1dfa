/-! The script's march is made. -/
theorem qL_ls {K : XK} {d y L na ml rc rt : Nat} {lv : List Nat} {is : List Instr} {bs : List XB} {ls ls' : XL} {st : List Value} {σ : XS} {Q : Option Value → XS → Prop} (hm : xmt y = some (na, ml, rc, rt, [], bs)) (hb : bs[L]? = some (lv, is)) (h : qL K d y L ls' st σ Q) (he : xnorm lv ls = xnorm lv ls') : qL K d y L ls st σ Q := by
  obtain ⟨n, v, σ', h1, h2⟩ := h
  cases n with
  | zero => cases h1
  | succ n =>
    refine ⟨n + 1, v, σ', ?_, h2⟩
    unfold xrun at h1 ⊢
    rw [hm] at h1 ⊢
    dsimp only at h1 ⊢
    rw [hb] at h1 ⊢
    dsimp only at h1 ⊢
    rw [he]; exact h1
theorem qMV.up {S : List XC} {m : XM} {a b L L' nb ns np j1 j2 j3 : Nat} {ws : List (Option Nat)} (h : qMV S m a b L nb ns np j1 j2 j3 ws) (hL : L ≤ L') : qMV S m a b L' nb ns np j1 j2 j3 ws := by
  obtain ⟨h1, h2, h3, h4, h5, h6, h7, h8⟩ := h
  refine ⟨h1, h2, h3, h4, h5, h6, fun i hi => ?_, h8⟩
  obtain ⟨g1, g2, t, v, l, w1, w2, w3, w4, w5, w6, w7⟩ := h7 i hi
  exact ⟨g1, g2, t, v, l, w1, w2, w3, w4, by omega, by omega, w7⟩
theorem qS_umA {S : List XC} {m : XM} {a A k : Nat} {v : Int32} (h : a ≤ A) : qS S m S (um m A k v) (fun x => a ≤ x) 0 := qS_m fun b hb => um_f (by omega)
theorem q_rem {K : XK} {d y rt : Nat} {is : List Instr} {ls : XL} {r : List Value} {σ : XS} {Q : Option Value → XS → Prop} {A B : Nat} {u v : Int32} (hu : u = n32 A) (hv : v = n32 B) (hA : A < 32) (h1 : 1 ≤ B) (hB : B < 32) (h : qB K d y rt is ls (.int (n32 (A % B)) :: r) σ Q) : qB K d y rt (.irem :: is) ls (.int v :: .int u :: r) σ Q := by
  subst hu; subst hv
  refine qB_one rfl ?_ h
  unfold xone
  dsimp only
  rw [if_neg (fun q => by have := n32_inj (a := B) (b := 0) (by omega) (by omega) q; omega), qrem hA h1 hB]
section QMC
variable {K : XK} {d : Nat} {S : List XC} {e : Nat} {w : Nat → Value} {m : XM}
def qPM (S : List XC) (m : XM) (e : Nat) (w : Nat → Value) (a b nb ns np c : Nat) : Option Value → XS → Prop := fun r σ' => r = some (.ref a) ∧ ∃ S' m' ws', σ' = (S', e, w, m') ∧ qMV S' m' a b S'.length nb ns np nb ns np ws' ∧ qS S m S' m' (fun x => a ≤ x) c ∧ qG S'
/-- the plans -/
theorem qw178_10 {a b L nb ns np : Nat} {ws : List (Option Nat)} (h1 : 1 ≤ K.1) (h2 : K.1 ≤ 100000) (hN : S.length ≤ 900000) (hL : L ≤ S.length) (hG : qG S) : ∀ (i j : Nat) (m : XM), j + i = np → qMV S m a b L nb ns np nb ns j ws → 
    qL K (d + 1) 178 10 [(0, .ref 1000000), (1, .ref a), (4, .int (n32 j))] [] (S, e, w, m) (qPM S m e w a b nb ns np 0) := by
  intro i
  induction i with
  | zero =>
    intro j m hj h
    have hj' : j = np := by omega
    subst hj'
    have hms := h.1
    have hp := h.2.2.2.2.1
    refine qL_at km178 k178_10 ?_
    iterate 2 refine qB_one rfl rfl ?_
    refine q_getV hms.1 hp.1 rfl ?_
    refine qB_icT (Int32.le_refl _) ?_
    refine qL_at km178 k178_12 ?_
    iterate 1 refine qB_one rfl rfl ?_
    exact qB_aret ⟨rfl, S, m, ws, rfl, h.up hL, qS.rf, hG⟩
  | succ i ih =>
    intro j m hj h
    have hms := h.1
    have hp := h.2.2.2.2.1
    have hnb := h.2.2.1
    have hab := hms.2.2.2.2.2
    refine qL_at km178 k178_10 ?_
    iterate 2 refine qB_one rfl rfl ?_
    refine q_getV hms.1 hp.1 rfl ?_
    refine qB_icF (fun q => ?_) ?_
    · have := (n32_le (a := np) (b := j) (by omega) (by omega)).mp q
      omega
    refine qB_gow (qL_at km178 k178_11 ?_)
    show qB K (d + 1) 178 8 _ [(0, .ref 1000000), (1, .ref a), (4, .int (n32 j))] [] _ _
    iterate 1 refine qB_one rfl rfl ?_
    refine q_getR hms.1 (qM_at hms (i := 11) (by omega)) rfl ?_
    iterate 4 refine qB_one rfl rfl ?_
    refine qB_is km177 (Nat.le_of_ble_eq_true rfl) rfl (Nat.le_of_ble_eq_true rfl) (Nat.le_of_ble_eq_true rfl) (qc177 (k := 8) h1 h2 (by show S.length ≤ 1000000; omega) (by omega)) ?_
    rintro v1 σ1 ⟨rfl, rfl⟩
    refine ⟨Or.inl rfl, ?_⟩
    iterate 7 refine qB_one rfl rfl ?_
    refine q_iastV (i := j) (hms.2.1 11 (by omega)) (by show j < 12; omega) (by show (12 : Nat) ≤ 100000; omega) ?_
    iterate 1 refine qB_one rfl rfl ?_
    refine q_getR hms.1 (qM_at hms (i := 12) (by omega)) rfl ?_
    iterate 3 refine qB_one rfl rfl ?_
    refine qB_is km177 (Nat.le_of_ble_eq_true rfl) rfl (Nat.le_of_ble_eq_true rfl) (Nat.le_of_ble_eq_true rfl) (qc177 (k := 8) h1 h2 (by show S.length ≤ 1000000; omega) (by omega)) ?_
    rintro v1 σ1 ⟨rfl, rfl⟩
    refine ⟨Or.inl rfl, ?_⟩
    obtain ⟨x1, hx1, ex1⟩ := qAnd ((qcl K 8).toUInt32 >>> ((Int32.ofInt 8 * n32 j).toUInt32 &&& Int32.toUInt32 31)).toInt32 (k := 7) (by omega)
    obtain ⟨x2, hx2, ex2⟩ := qAnd ((qcl K 8).toUInt32 >>> ((Int32.ofInt 8 * n32 j + Int32.ofInt 3).toUInt32 &&& Int32.toUInt32 31)).toInt32 (k := 3) (by omega)
    iterate 9 refine qB_one rfl rfl ?_
    refine q_getV hms.1 (v := n32 nb) (by rw [um_a (by omega)]; exact hnb.1) rfl ?_
    iterate 1 refine qB_one rfl rfl ?_
    refine q_sub (a := nb) (b := 1) (by omega) ?_
    refine q_rem (A := x2) (B := nb - 1) ex2 rfl (by omega) (by omega) (by omega) ?_
    refine q_iastV (i := j) (hms.2.1 12 (by omega)) (by show j < 12; omega) (by show (12 : Nat) ≤ 100000; omega) ?_
    refine qB_one (ls' := [(4, .int (n32 (j + 1))), (0, .ref 1000000), (1, .ref a)]) (st' := []) rfl (by rw [← n32_add]; rfl) ?_
    have hm1 := (qMV_um (k := 11) (j := j) (v := Int32.ofInt 1 + (((qcl K 8).toUInt32 >>> ((Int32.ofInt 8 * n32 j).toUInt32 &&& Int32.toUInt32 31)).toInt32 &&& Int32.ofInt 7)) h (by omega) (by omega) (by omega) (by omega) (by omega))
    have hm2 := qMV_um (k := 12) (j := j) (v := n32 (x2 % (nb - 1))) hm1 (by omega) (by omega) (by omega) (by omega) (by omega)
    have hm3 : qMV S _ a b L nb ns np nb ns (j + 1) ws := ⟨hm2.1, hm2.2.1, hm2.2.2.1, hm2.2.2.2.1, hm2.2.2.2.2.1, hm2.2.2.2.2.2.1, hm2.2.2.2.2.2.2.1, fun q hq => by
      by_cases hqj : q < j
      · exact hm2.2.2.2.2.2.2.2 q hqj
      · have : q = j := by omega
        subst this
        refine ⟨⟨1 + x1, by omega, by omega, ?_⟩, ⟨x2 % (nb - 1), Nat.zero_le _, by have := Nat.mod_lt x2 (show 0 < nb - 1 by omega); omega, um_eq _ _ _ _⟩⟩
        rw [um_a (by omega), um_eq, show ((qcl K 8).toUInt32 >>> ((Int32.ofInt 8 * n32 q).toUInt32 &&& Int32.toUInt32 31)).toInt32 &&& Int32.ofInt 7 = n32 x1 from ex1]
        exact n32_add 1 x1⟩
    refine qB_go (qL_ls km178 k178_10 (qL_mono (ih (j + 1) _ (by omega) hm3) ?_) rfl)
    rintro v1 σ1 ⟨rfl, S', m', ws', rfl, z1, z2, z3⟩
    exact ⟨rfl, S', m', ws', rfl, z1, ((qS_umA (by omega)).tr (E := fun x => a ≤ x) (c := 0) (qS_umA (by omega)) (fun _ _ q => q) (fun _ _ q => q) (Nat.le_refl _)).tr z2 (fun _ _ q => q) (fun _ _ q => q) (Nat.le_refl _), z3⟩
end QMC
