/-! The floats that the component answers are among finitely many. -/
theorem shL_d : (shL.all fun q => decide (FP.f2d q &&& 0x7fffffffffffffff ≤ 0x7ff0000000000000) && decide (Op.cmpValue (FP.dcmp (FP.f2d q) (FP.f2d q)) .l = 0)) = true := by decide +kernel
theorem shL_f2d {q : UInt32} (h : q ∈ shL) : FP.f2d q &&& 0x7fffffffffffffff ≤ 0x7ff0000000000000 ∧ Op.cmpValue (FP.dcmp (FP.f2d q) (FP.f2d q)) .l = 0 := by
  have := List.all_eq_true.mp shL_d q h
  rw [Bool.and_eq_true, decide_eq_true_eq, decide_eq_true_eq] at this
  exact this
section S99sb
variable {D : Nat} {m : XM}
theorem q_share {v : Int32} {N : Nat} (h : CPL m N) : VF (D + 12) 107 [vR 10 0, vI v] m (fun r _ => r ∈ shL) (fun _ _ => True) := by
  rcases stand_cases h v with ⟨h1, h2⟩ | ⟨h1, h2, h3, h4⟩ | ⟨h1, h2, hS, s, hs, rfl, h69, h4⟩
  · exact w107_0 ⟨fun _ => trivial, fun c => absurd h1 c⟩
  · refine w107_0 ⟨fun c => absurd (h1.symm.trans c) n01, fun _ => ⟨fun _ => trivial, fun c => ⟨fun c2 => ?_, fun _ => trivial⟩⟩⟩
    rcases h3 with h3 | h3
    · exact absurd h3 c
    · exact absurd c2 h3
  · obtain ⟨r1, r2, r3, T, hT, si⟩ := hS
    have w := si.w
    have a4 := w.ns
    refine w107_0 ⟨fun c => absurd (h1.symm.trans c) n01, fun _ => ⟨fun c => absurd ((n32_lt (by omega) (by omega)).mp c) (by omega), fun _ => ⟨fun _ => ?_, fun c => absurd (by rw [h69]; exact (n32_lt (by omega) (by omega)).mpr hs) c⟩⟩⟩
    refine s161 w r1 r3 hs ?_
    intro m1 hT1 fd
    exact s40 w hT1 (RT_fd (r := 278) r3 fd (Or.inr (by omega))) hs (share_in w hs)
theorem q_shareIn {v1 v2 : Int32} {N : Nat} (h : CPL m N) : VF (D + 12) 133 [vR 10 0, vI v1, vI v2] m (fun r _ => r ∈ shL) (fun _ _ => True) := by
  rcases stand_cases h v1 with ⟨h1, h2⟩ | ⟨h1, h2, h3, h4⟩ | ⟨h1, h2, hS, s, hs, rfl, h69, h4⟩
  · exact w133_0 ⟨fun _ => trivial, fun c => absurd h1 c⟩
  · refine w133_0 ⟨fun c => absurd (h1.symm.trans c) n01, fun _ => ⟨fun _ => trivial, fun d1 => ⟨fun d2 => ?_, fun _ => trivial⟩⟩⟩
    rcases h3 with h3 | h3
    · exact absurd h3 d1
    · exact absurd d2 h3
  · obtain ⟨r1, r2, r3, T, hT, si⟩ := hS
    have w := si.w
    have a2 := w.nb
    have a4 := w.ns
    have b0 : ¬ n32 s < n32 0 := by rw [n32_lt (by omega) (by omega)]; omega
    have bn : n32 s < m 69 0 := by rw [h69, n32_lt (by omega) (by omega)]; omega
    rcases rng_cases v2 300 (by omega) with ⟨d1, e1⟩ | ⟨d1, d2, e1⟩ | ⟨n, hn, rfl, e1⟩
    · exact w133_0 ⟨fun c => absurd (h1.symm.trans c) n01, fun _ => ⟨fun c => absurd c b0, fun _ => ⟨fun _ => ⟨fun _ => trivial, fun c => absurd d1 c⟩, fun c => absurd bn c⟩⟩⟩
    · exact w133_0 ⟨fun c => absurd (h1.symm.trans c) n01, fun _ => ⟨fun c => absurd c b0, fun _ => ⟨fun _ => ⟨fun c => absurd c d1, fun _ => ⟨fun _ => trivial, fun c => absurd d2 c⟩⟩, fun c => absurd bn c⟩⟩⟩
    · have n0 : ¬ n32 n < n32 0 := by rw [n32_lt (by omega) (by omega)]; omega
      have nk : ¬ n32 300 < n32 n := by rw [n32_lt (by omega) (by omega)]; omega
      refine w133_0 ⟨fun c => absurd (h1.symm.trans c) n01, fun _ => ⟨fun c => absurd c b0, fun _ => ⟨fun _ => ⟨fun c => absurd c n0, fun _ => ⟨fun c => absurd c nk, fun _ => ?_⟩⟩, fun c => absurd bn c⟩⟩⟩
      refine s163 si hT hn r1 ?_
      intro m1 rl fl
      have kk := tkn_keeps si hT n (by omega)
      have hs' : s < nSt (tkn (m 284) n) := by rw [kk.2.2.1]; exact hs
      have rt1 := RT_flr fl.r r3
      refine s162 si hT (by omega) rl rt1 hs ?_
      intro m2 hT2 fd
      have fr : FLR m m2 := fl.r.tr fd.r
      exact s40 kk.1 hT2 (RT_tkn si hT (by omega) (RT_flr fr r3)) hs' (share_in kk.1 hs')
theorem q_bestShare {v1 v2 : Int32} {N : Nat} (h : CPL m N) : VF (D + 12) 134 [vR 10 0, vI v1, vI v2] m (fun r _ => r ∈ shL) (fun _ _ => True) := by
  rcases stand_cases h v1 with ⟨h1, h2⟩ | ⟨h1, h2, h3, h4⟩ | ⟨h1, h2, hS, s, hs, rfl, h69, h4⟩
  · exact w134_0 ⟨fun _ => trivial, fun c => absurd h1 c⟩
  · refine w134_0 ⟨fun c => absurd (h1.symm.trans c) n01, fun _ => ⟨fun _ => trivial, fun d1 => ⟨fun d2 => ?_, fun _ => trivial⟩⟩⟩
    rcases h3 with h3 | h3
    · exact absurd h3 d1
    · exact absurd d2 h3
  · obtain ⟨r1, r2, r3, T, hT, si⟩ := hS
    have w := si.w
    have a2 := w.nb
    have a4 := w.ns
    have b0 : ¬ n32 s < n32 0 := by rw [n32_lt (by omega) (by omega)]; omega
    have bn : n32 s < m 69 0 := by rw [h69, n32_lt (by omega) (by omega)]; omega
    rcases rng_cases v2 300 (by omega) with ⟨d1, e1⟩ | ⟨d1, d2, e1⟩ | ⟨n, hn, rfl, e1⟩
    · exact w134_0 ⟨fun c => absurd (h1.symm.trans c) n01, fun _ => ⟨fun c => absurd c b0, fun _ => ⟨fun _ => ⟨fun _ => trivial, fun c => absurd d1 c⟩, fun c => absurd bn c⟩⟩⟩
    · exact w134_0 ⟨fun c => absurd (h1.symm.trans c) n01, fun _ => ⟨fun c => absurd c b0, fun _ => ⟨fun _ => ⟨fun c => absurd c d1, fun _ => ⟨fun _ => trivial, fun c => absurd d2 c⟩⟩, fun c => absurd bn c⟩⟩⟩
    · have n0 : ¬ n32 n < n32 0 := by rw [n32_lt (by omega) (by omega)]; omega
      have nk : ¬ n32 300 < n32 n := by rw [n32_lt (by omega) (by omega)]; omega
      refine w134_0 ⟨fun c => absurd (h1.symm.trans c) n01, fun _ => ⟨fun c => absurd c b0, fun _ => ⟨fun _ => ⟨fun c => absurd c n0, fun _ => ⟨fun c => absurd c nk, fun _ => ?_⟩⟩, fun c => absurd bn c⟩⟩⟩
      refine s68l w r1 ?_
      intro m1 rl fl
      refine s162 (n := 0) si hT (by omega) rl (RT_flr fl.r r3) hs ?_
      intro m2 hT2 fd
      have fr : FLR m m2 := fl.r.tr fd.r
      refine s40 w hT2 (RT_flr fr r3) hs ?_
      refine c134 si hT hn hs (RS_fd49 rl fd) r3 fr ?_
      intro m3 fr3
      exact bshG_in si hT hs n (by omega)
end S99sb
