/-! The law's loop: what is foretold is so. -/
section ZE8
variable {K : XK} {d : Nat} {T : List XC} {e : Nat} {w : Nat → Value} {m : XM} {a q : Nat} {g : PG} {u : Option PG} {s : Nat} {x : PG} {B c i : Nat} {k5 : Int32} {Q : Option Value → XS → Prop}
theorem qw181_8 (h : qLS T m a q g u s g B c) (hi : i < 22) (hB : B ≤ 16 * i) (hc1 : c + 4 ≤ 200 + 10 * (i + 1)) (nx : qNX K d a i e w Q) : qL K (d + 15) 181 8 [(0, .ref 1000000), (1, .ref 0), (3, .ref a), (4, .int (n32 i)), (5, .int k5), (6, .int (n32 s)), (7, .ref q)] [] (S0 ++ T, e, w, m) Q := by
  have hc : c ≤ 1000 := by omega
  have lw := h.2.1.1
  have n25 := lw.2.2.1
  obtain ⟨T1, X1, hT1, si⟩ := h.1.2.1.2.2.2
  obtain ⟨kb, hkb, eb⟩ := qAnd k5 (k := 7) (by omega)
  obtain ⟨kt, hkt, et⟩ := qAnd (k5.toUInt32 >>> ((Int32.ofInt 3).toUInt32 &&& Int32.toUInt32 31)).toInt32 (k := 7) (by omega)
  obtain ⟨rs, hA⟩ := h.2.2.1.2.2.2.2.2
  have hb : kb % nBr g < nBr g := Nat.mod_lt _ (by omega)
  refine qL_at km181 k181_8 ?_
  show qB K (d + 15) 181 2 _ [(0, .ref 1000000), (1, .ref 0), (3, .ref a), (4, .int (n32 i)), (5, .int k5), (6, .int (n32 s)), (7, .ref q)] [] _ _
  iterate 2 refine qB_one rfl rfl ?_
  refine qB_one (ls' := [(0, .ref 1000000), (1, .ref 0), (3, .ref a), (4, .int (n32 i)), (5, .int k5), (6, .int (n32 s)), (7, .ref q)]) (st' := [.int (n32 kb)]) rfl (by rw [← eb]; rfl) ?_
  iterate 1 refine qB_one rfl rfl ?_
  refine q_getI hA rfl ?_
  refine q_rem (A := kb) (B := nBr g) rfl h.2.2.1.1 (by omega) (by omega) (by omega) ?_
  generalize kb % nBr g = b at hb ⊢
  iterate 1 refine qB_one rfl rfl ?_
  show qB K (d + 15) 181 2 _ [(8, .int (n32 b)), (0, .ref 1000000), (1, .ref 0), (3, .ref a), (4, .int (n32 i)), (5, .int k5), (6, .int (n32 s)), (7, .ref q)] [] _ _
  iterate 5 refine qB_one rfl rfl ?_
  refine qB_one (ls' := [(8, .int (n32 b)), (0, .ref 1000000), (1, .ref 0), (3, .ref a), (4, .int (n32 i)), (5, .int k5), (6, .int (n32 s)), (7, .ref q)]) (st' := [.int (n32 kt), .int (n32 1)]) rfl (by rw [← et]; rfl) ?_
  refine qB_one (ls' := [(8, .int (n32 b)), (0, .ref 1000000), (1, .ref 0), (3, .ref a), (4, .int (n32 i)), (5, .int k5), (6, .int (n32 s)), (7, .ref q)]) (st' := [.int (n32 (1 + kt))]) rfl (by rw [← n32_add]; rfl) ?_
  obtain ⟨n, hn⟩ : ∃ n, n = 1 + kt := ⟨_, rfl⟩
  rw [← hn]
  have n1 : 1 ≤ n := by omega
  have n8 : n ≤ 8 := by omega
  have hB5 : B ≤ 5000 := by omega
  have kk := tkn_keeps si (by omega) n (by omega)
  have lwt := LW_tkn si (by omega) lw n (by omega)
  iterate 2 refine qB_one rfl rfl ?_
  have hln := h.2.2.1.ln hc
  have hal := h.2.2.1.lt
  have hql := ap_lt h.2.2.2.2.1
  have hz0 : 0 < (S0 ++ T).length := by omega
  refine q_narrI (n := 4) (by omega) (qfresh h.2.2.1.2.1 (by omega) rfl (xaC xokI (xaC xokI (xaC (xokF (Nat.le_refl _)) (xaC (xokR (by omega)) (xaC (xokR (by omega)) (xaC xokI (xaC xokI (xaC xokI (xaC (xokR (by omega)) xaN)))))))))) ?_
  rw [List.append_assoc]
  obtain ⟨h', hP, hlq, hla⟩ := h.new (n1 := 4) (by omega)
  clear h
  have h := h'
  clear h'
  have hp : 283 ≤ (S0 ++ T).length := by omega
  generalize hTT : T ++ [((20, 4, []) : XC)] = T2 at h hP ⊢
  generalize hpp : (S0 ++ T).length = p at hP hlq hla hp h ⊢
  generalize uz m p = m0 at h ⊢
  have hc : c + 1 ≤ 1000 := by omega
  iterate 5 refine qB_one rfl rfl ?_
  refine qB_iv km128 (Nat.le_of_ble_eq_true rfl) (qrecv (hcls _) (by decide)) (Nat.le_of_ble_eq_true rfl) (Nat.le_of_ble_eq_true rfl) (q128 (d := d + 2) (b := b) (n := n) h.1 hB5 hb (by omega) (h.hT hc)) ?_
  rintro v1 σ1 ⟨rfl, z0, rfl, c1, f1, f2⟩
  refine ⟨Or.inl rfl, ?_⟩
  replace h := h.ask c1 f2
  refine q_iastV (i := 0) hP (by omega) (by omega) ?_
  replace h := h.put (k := 0) (v := bq (tkn g n) b 1) hp (by omega) (by omega)
  have hp0 : um z0 p 0 (bq (tkn g n) b 1) p 0 = bq (tkn g n) b 1 := um_eq _ _ _ _
  generalize um z0 p 0 (bq (tkn g n) b 1) = M0 at h hp0 ⊢
  iterate 5 refine qB_one rfl rfl ?_
  refine qB_iv km129 (Nat.le_of_ble_eq_true rfl) (qrecv (hcls _) (by decide)) (Nat.le_of_ble_eq_true rfl) (Nat.le_of_ble_eq_true rfl) (q129 (d := d + 2) (b := b) (n := n) h.1 hB5 hb (by omega) (h.hT hc)) ?_
  rintro v1 σ1 ⟨rfl, z1, rfl, c1, f1, f2⟩
  refine ⟨Or.inl rfl, ?_⟩
  replace h := h.ask c1 f2
  replace hp0 := (congrFun (f2 p hp) 0).trans hp0
  refine q_iastV (i := 1) hP (by omega) (by omega) ?_
  replace h := h.put (k := 1) (v := bq (tkn g n) b 4) hp (by omega) (by omega)
  replace hp0 : um z1 p 1 (bq (tkn g n) b 4) p 0 = _ := (um_k (by omega)).trans hp0
  have hp1 : um z1 p 1 (bq (tkn g n) b 4) p 1 = bq (tkn g n) b 4 := um_eq _ _ _ _
  generalize um z1 p 1 (bq (tkn g n) b 4) = M1 at h hp0 hp1 ⊢
  iterate 5 refine qB_one rfl rfl ?_
  refine qB_iv km130 (Nat.le_of_ble_eq_true rfl) (qrecv (hcls _) (by decide)) (Nat.le_of_ble_eq_true rfl) (Nat.le_of_ble_eq_true rfl) (q130 (d := d + 2) (b := b) (n := n) h.1 hB5 hb (by omega) (h.hT hc)) ?_
  rintro v1 σ1 ⟨rfl, z2, rfl, c1, f1, f2⟩
  refine ⟨Or.inl rfl, ?_⟩
  replace h := h.ask c1 f2
  replace hp0 := (congrFun (f2 p hp) 0).trans hp0
  replace hp1 := (congrFun (f2 p hp) 1).trans hp1
  refine q_iastV (i := 2) hP (by omega) (by omega) ?_
  replace h := h.put (k := 2) (v := bq (tkn g n) b 0) hp (by omega) (by omega)
  replace hp0 : um z2 p 2 (bq (tkn g n) b 0) p 0 = _ := (um_k (by omega)).trans hp0
  replace hp1 : um z2 p 2 (bq (tkn g n) b 0) p 1 = _ := (um_k (by omega)).trans hp1
  have hp2 : um z2 p 2 (bq (tkn g n) b 0) p 2 = bq (tkn g n) b 0 := um_eq _ _ _ _
  generalize um z2 p 2 (bq (tkn g n) b 0) = M2 at h hp0 hp1 hp2 ⊢
  iterate 4 refine qB_one rfl rfl ?_
  refine qB_iv km131 (Nat.le_of_ble_eq_true rfl) (qrecv (hcls _) (by decide)) (Nat.le_of_ble_eq_true rfl) (Nat.le_of_ble_eq_true rfl) (q131 (d := d + 2) (n := n) h.1 hB5 (by omega) (h.hT hc)) ?_
  rintro v1 σ1 ⟨rfl, z3, rfl, c1, f1, f2⟩
  refine ⟨Or.inl rfl, ?_⟩
  replace h := h.ask c1 f2
  replace hp0 := (congrFun (f2 p hp) 0).trans hp0
  replace hp1 := (congrFun (f2 p hp) 1).trans hp1
  replace hp2 := (congrFun (f2 p hp) 2).trans hp2
  refine q_iastV (i := 3) hP (by omega) (by omega) ?_
  replace h := h.put (k := 3) (v := tkn g n 13 - g 13) hp (by omega) (by omega)
  replace hp0 : um z3 p 3 (tkn g n 13 - g 13) p 0 = _ := (um_k (by omega)).trans hp0
  replace hp1 : um z3 p 3 (tkn g n 13 - g 13) p 1 = _ := (um_k (by omega)).trans hp1
  replace hp2 : um z3 p 3 (tkn g n 13 - g 13) p 2 = _ := (um_k (by omega)).trans hp2
  have hp3 : um z3 p 3 (tkn g n 13 - g 13) p 3 = tkn g n 13 - g 13 := um_eq _ _ _ _
  generalize um z3 p 3 (tkn g n 13 - g 13) = M3 at h hp0 hp1 hp2 hp3 ⊢
  iterate 3 refine qB_one rfl rfl ?_
  refine qB_iv km96 (Nat.le_of_ble_eq_true rfl) (qrecv (hcls _) (by decide)) (Nat.le_of_ble_eq_true rfl) (Nat.le_of_ble_eq_true rfl) (q96 (d := d + 2) (j := 8) h.1 (by omega) (h.hT hc)) ?_
  rintro v1 σ1 ⟨rfl, y13, rfl, c1, f1, f2⟩
  refine ⟨Or.inl rfl, ?_⟩
  replace h := h.ask c1 f2
  replace hp0 := (congrFun (f2 p hp) 0).trans hp0
  replace hp1 := (congrFun (f2 p hp) 1).trans hp1
  replace hp2 := (congrFun (f2 p hp) 2).trans hp2
  replace hp3 := (congrFun (f2 p hp) 3).trans hp3
  iterate 3 refine qB_one rfl rfl ?_
  refine qB_iv km142 (Nat.le_of_ble_eq_true rfl) (qrecv (hcls _) (by decide)) (Nat.le_of_ble_eq_true rfl) (Nat.le_of_ble_eq_true rfl) (q142 (d := d + 2) (n := n) h.1 (by omega) n1 (by omega) (h.hT hc)) ?_
  rintro v1 σ1 ⟨r0, rfl, hr, w5, rfl, c1, f2⟩
  refine ⟨Or.inl rfl, ?_⟩
  replace h := h.k c1 f2 lwt kk.2.1
  replace hp0 := (congrFun (f2 p hp) 0).trans hp0
  replace hp1 := (congrFun (f2 p hp) 1).trans hp1
  replace hp2 := (congrFun (f2 p hp) 2).trans hp2
  replace hp3 := (congrFun (f2 p hp) 3).trans hp3
  have hb' := hb
  replace hb : b < nBr (tkn g n) := by rw [kk.2.1]; exact hb
  iterate 4 refine qB_one rfl rfl ?_
  refine qB_iv km98 (Nat.le_of_ble_eq_true rfl) (qrecv (hcls _) (by decide)) (Nat.le_of_ble_eq_true rfl) (Nat.le_of_ble_eq_true rfl) (q98 (d := d + 2) (b := b) (i := 1) h.1 hb (by omega) (h.hT hc)) ?_
  rintro v1 σ1 ⟨rfl, y14, rfl, c1, f1, f2⟩
  refine ⟨Or.inl rfl, ?_⟩
  replace h := h.ask c1 f2
  replace hp0 := (congrFun (f2 p hp) 0).trans hp0
  replace hp1 := (congrFun (f2 p hp) 1).trans hp1
  replace hp2 := (congrFun (f2 p hp) 2).trans hp2
  replace hp3 := (congrFun (f2 p hp) 3).trans hp3
  iterate 2 refine qB_one rfl rfl ?_
  refine q_ialV (i := 0) hP (by omega) (by omega) hp0 ?_
  refine qB_icF (fun z => z rfl) ?_
  refine qB_gow (qL_at km181 k181_9 ?_)
  show qB K (d + 15) 181 2 _ [(0, .ref 1000000), (1, .ref 0), (3, .ref a), (4, .int (n32 i)), (5, .int k5), (6, .int (n32 s)), (7, .ref q), (8, .int (n32 b)), (9, .int (n32 n)), (10, .ref p), (11, .int (cq g 8)), (12, .int r0)] [] _ _
  iterate 3 refine qB_one rfl rfl ?_
  refine qB_iv km98 (Nat.le_of_ble_eq_true rfl) (qrecv (hcls _) (by decide)) (Nat.le_of_ble_eq_true rfl) (Nat.le_of_ble_eq_true rfl) (q98 (d := d + 2) (b := b) (i := 4) h.1 hb (by omega) (h.hT hc)) ?_
  rintro v1 σ1 ⟨rfl, y15, rfl, c1, f1, f2⟩
  refine ⟨Or.inl rfl, ?_⟩
  replace h := h.ask c1 f2
  replace hp0 := (congrFun (f2 p hp) 0).trans hp0
  replace hp1 := (congrFun (f2 p hp) 1).trans hp1
  replace hp2 := (congrFun (f2 p hp) 2).trans hp2
  replace hp3 := (congrFun (f2 p hp) 3).trans hp3
  iterate 2 refine qB_one rfl rfl ?_
  refine q_ialV (i := 1) hP (by omega) (by omega) hp1 ?_
  refine qB_icF (fun z => z rfl) ?_
  refine qB_gow (qL_at km181 k181_10 ?_)
  show qB K (d + 15) 181 2 _ [(0, .ref 1000000), (1, .ref 0), (3, .ref a), (4, .int (n32 i)), (5, .int k5), (6, .int (n32 s)), (7, .ref q), (8, .int (n32 b)), (9, .int (n32 n)), (10, .ref p), (11, .int (cq g 8)), (12, .int r0)] [] _ _
  iterate 3 refine qB_one rfl rfl ?_
  refine qB_iv km98 (Nat.le_of_ble_eq_true rfl) (qrecv (hcls _) (by decide)) (Nat.le_of_ble_eq_true rfl) (Nat.le_of_ble_eq_true rfl) (q98 (d := d + 2) (b := b) (i := 0) h.1 hb (by omega) (h.hT hc)) ?_
  rintro v1 σ1 ⟨rfl, y16, rfl, c1, f1, f2⟩
  refine ⟨Or.inl rfl, ?_⟩
  replace h := h.ask c1 f2
  replace hp0 := (congrFun (f2 p hp) 0).trans hp0
  replace hp1 := (congrFun (f2 p hp) 1).trans hp1
  replace hp2 := (congrFun (f2 p hp) 2).trans hp2
  replace hp3 := (congrFun (f2 p hp) 3).trans hp3
  iterate 2 refine qB_one rfl rfl ?_
  refine q_ialV (i := 2) hP (by omega) (by omega) hp2 ?_
  refine qB_icF (fun z => z rfl) ?_
  refine qB_gow (qL_at km181 k181_11 ?_)
  show qB K (d + 15) 181 2 _ [(0, .ref 1000000), (1, .ref 0), (3, .ref a), (4, .int (n32 i)), (5, .int k5), (6, .int (n32 s)), (7, .ref q), (8, .int (n32 b)), (9, .int (n32 n)), (10, .ref p), (11, .int (cq g 8)), (12, .int r0)] [] _ _
  iterate 2 refine qB_one rfl rfl ?_
  refine qB_iv km96 (Nat.le_of_ble_eq_true rfl) (qrecv (hcls _) (by decide)) (Nat.le_of_ble_eq_true rfl) (Nat.le_of_ble_eq_true rfl) (q96 (d := d + 2) (j := 8) h.1 (by omega) (h.hT hc)) ?_
  rintro v1 σ1 ⟨rfl, y17, rfl, c1, f1, f2⟩
  refine ⟨Or.inl rfl, ?_⟩
  replace h := h.ask c1 f2
  replace hp0 := (congrFun (f2 p hp) 0).trans hp0
  replace hp1 := (congrFun (f2 p hp) 1).trans hp1
  replace hp2 := (congrFun (f2 p hp) 2).trans hp2
  replace hp3 := (congrFun (f2 p hp) 3).trans hp3
  iterate 4 refine qB_one rfl rfl ?_
  refine q_ialV (i := 3) hP (by omega) (by omega) hp3 ?_
  refine qB_icT rfl ?_
  exact qL_ls km181 k181_13 (qw181_13 h hi (by omega) (by omega) n1 n8 hb' lw lwt kk.2.1 hr nx) rfl
end ZE8
