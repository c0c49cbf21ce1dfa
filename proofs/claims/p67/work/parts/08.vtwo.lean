theorem vone_ok2 {i : Instr} {al : AL} {st : List AV} {m : XM} {k : AL → List AV → XM → Prop} (h : vone i al st m k) (hl : wtL al) (hs : wtS st)
    (hi : (∃ f, i = .getfield f) ∨ (∃ f, i = .putfield f) ∨ i = .iaload ∨ i = .iastore ∨ i = .baload ∨ i = .bastore ∨ i = .aaload ∨ i = .arraylength) : vgoes i al st m k := by
  rcases hi with ⟨f, rfl⟩ | ⟨f, rfl⟩ | rfl | rfl | rfl | rfl | rfl | rfl
  · unfold vone at h
    dsimp only at h
    split at h
    · rename_i kd a r
      obtain ⟨hq1, hq2⟩ : wt (.inr (kd, a)) := wtS_hd hs
      split at h
      · rename_i hb
        rw [Bool.and_eq_true, Nat.blt_eq] at hb
        have e1 := Nat.eq_of_beq_eq_true hb.1
        split at h
        · rename_i hn
          rw [Nat.blt_eq] at hn
          obtain ⟨rs, e2, e3⟩ := xk_obj hq1 hb.2
          split at h
          · rename_i hr
            obtain ⟨f1, f2, f3⟩ := e3 _ hn hr
            have e4 : 32 * kd + f % 32 = f := by omega
            rw [e4] at f1 f2 f3
            refine ⟨_, _, _, ?_, hl, wtS_cons (v := vR _ _) (wtS_tl hs) ⟨f2, f3⟩, h⟩
            intro e w
            show (match xget S0 m f a with | some v => some (cvL al, v :: cvS r, (S0, e, w, m)) | none => none) = _
            unfold xget
            rw [e2]
            dsimp only
            rw [if_pos ⟨e1, hn, Nat.lt_trans hb.2 (by decide)⟩, if_pos hr, f1]; rfl
          · rename_i hr
            refine ⟨_, _, _, ?_, hl, wtS_cons (v := vI _) (wtS_tl hs) trivial, h⟩
            intro e w
            show (match xget S0 m f a with | some v => some (cvL al, v :: cvS r, (S0, e, w, m)) | none => none) = _
            unfold xget
            rw [e2]
            dsimp only
            rw [if_pos ⟨e1, hn, Nat.lt_trans hb.2 (by decide)⟩, hr]; rfl
        · exact h.elim
      · split at h
        · rename_i h30
          have e30 := Nat.eq_of_beq_eq_true h30
          obtain ⟨e2, e3⟩ := xk_const hq1 (by omega) (by omega)
          have e4 : 1000010 ≤ a ∧ a < 1000028 := by omega
          split at h
          · rename_i hf
            have hf := Nat.eq_of_beq_eq_true hf
            refine ⟨_, _, _, ?_, hl, wtS_cons (v := vR 31 (a + 30)) (wtS_tl hs) ⟨?_, by omega⟩, h⟩
            · intro e w
              show (match xget S0 m f a with | some v => some (cvL al, v :: cvS r, (S0, e, w, m)) | none => none) = _
              unfold xget
              rw [e2]
              dsimp only
              rw [if_pos e4, if_pos hf]; rfl
            · show xkd (a + 30) = 31
              unfold xkd
              rw [S0_none (by omega)]
              dsimp only
              rw [if_neg (by omega), if_neg (by omega), if_neg (by omega), if_pos (by omega)]
          · split at h
            · rename_i hf0 hf
              have hf := Nat.eq_of_beq_eq_true hf
              refine ⟨_, _, _, ?_, hl, wtS_cons (v := vI 0) (wtS_tl hs) trivial, h⟩
              intro e w
              show (match xget S0 m f a with | some v => some (cvL al, v :: cvS r, (S0, e, w, m)) | none => none) = _
              unfold xget
              rw [e2]
              dsimp only
              rw [if_pos e4, if_neg (by omega), if_pos hf]; rfl
            · exact h.elim
        · exact h.elim
    · exact h.elim
  · unfold vone at h
    dsimp only at h
    split at h
    · rename_i v kd a r
      obtain ⟨hq1, hq2⟩ : wt (.inr (kd, a)) := wtS_hd (wtS_tl hs)
      split at h
      · rename_i hb
        simp only [Bool.and_eq_true, Nat.blt_eq, Bool.not_eq_true'] at hb
        obtain ⟨⟨⟨h1, h2⟩, h3⟩, h4⟩ := hb
        have h1 := Nat.eq_of_beq_eq_true h1
        obtain ⟨rs, e2, -⟩ := xk_obj hq1 h2
        split at h
        · refine ⟨_, _, _, ?_, hl, wtS_tl (wtS_tl hs), h.2⟩
          intro e w
          unfold xone
          dsimp only [cvS, List.map, cv]
          rw [e2]
          exact if_pos ⟨h1, Nat.lt_trans h2 (by decide), h3, h4, Or.inr h.1⟩
        · rename_i hbl
          refine ⟨_, _, _, ?_, hl, wtS_tl (wtS_tl hs), h⟩
          intro e w
          unfold xone
          dsimp only [cvS, List.map, cv]
          rw [e2]
          exact if_pos ⟨h1, Nat.lt_trans h2 (by decide), h3, h4, Or.inl hbl⟩
      · exact h.elim
    · exact h.elim
  · unfold vone at h
    dsimp only at h
    split at h
    · rename_i v kd a r
      obtain ⟨hq1, hq2⟩ : wt (.inr (kd, a)) := wtS_hd (wtS_tl hs)
      split at h
      · rename_i hb
        obtain ⟨rs, e2⟩ := xk_arr hq1 (Nat.eq_of_beq_eq_true hb) (by omega)
        refine ⟨_, _, _, ?_, hl, wtS_cons (v := vI _) (wtS_tl (wtS_tl hs)) trivial, h.2⟩
        intro e w
        unfold xone
        dsimp only [cvS, List.map, cv]
        rw [e2]
        exact if_pos ⟨rfl, h.1⟩
      · split at h
        · rename_i h9 hb
          have hb := Nat.eq_of_beq_eq_true hb
          obtain ⟨e2, e3⟩ := xk_const hq1 (by omega) (by omega)
          have e4 : a = 1000001 := by omega
          refine ⟨_, _, _, ?_, hl, wtS_cons (v := vI _) (wtS_tl (wtS_tl hs)) trivial, h.2⟩
          intro e w
          unfold xone
          dsimp only [cvS, List.map, cv]
          rw [e2, e4]
          exact if_pos h.1
        · split at h
          · rename_i h9 h8 hb
            have hb := Nat.eq_of_beq_eq_true hb
            obtain ⟨e2, e3⟩ := xk_const hq1 (by omega) (by omega)
            have e4 : a = 1000002 := by omega
            refine ⟨_, _, _, ?_, hl, wtS_cons (v := vI _) (wtS_tl (wtS_tl hs)) trivial, h.2⟩
            intro e w
            unfold xone
            dsimp only [cvS, List.map, cv]
            rw [e2, e4]
            exact if_pos h.1
          · exact h.elim
    · exact h.elim
  · unfold vone at h
    dsimp only at h
    split at h
    · rename_i v j kd a r
      obtain ⟨hq1, hq2⟩ : wt (.inr (kd, a)) := wtS_hd (wtS_tl (wtS_tl hs))
      split at h
      · rename_i hb
        obtain ⟨rs, e2⟩ := xk_arr hq1 (Nat.eq_of_beq_eq_true hb) (by omega)
        refine ⟨_, _, _, ?_, hl, wtS_tl (wtS_tl (wtS_tl hs)), h.2⟩
        intro e w
        unfold xone
        dsimp only [cvS, List.map, cv]
        rw [e2]
        exact if_pos ⟨rfl, h.1⟩
      · exact h.elim
    · exact h.elim
  · unfold vone at h
    dsimp only at h
    split at h
    · rename_i v kd a r
      obtain ⟨hq1, hq2⟩ : wt (.inr (kd, a)) := wtS_hd (wtS_tl hs)
      split at h
      · rename_i hb
        rw [Bool.or_eq_true] at hb
        refine ⟨_, _, _, ?_, hl, wtS_cons (v := vI _) (wtS_tl (wtS_tl hs)) trivial, h.2⟩
        intro e w
        unfold xone
        dsimp only [cvS, List.map, cv]
        rcases hb with hb | hb
        · obtain ⟨rs, e2⟩ := xk_arr hq1 (Nat.eq_of_beq_eq_true hb) (by omega)
          rw [e2]
          exact if_pos ⟨Or.inl rfl, h.1⟩
        · obtain ⟨rs, e2⟩ := xk_arr hq1 (Nat.eq_of_beq_eq_true hb) (by omega)
          rw [e2]
          exact if_pos ⟨Or.inr rfl, h.1⟩
      · split at h
        · rename_i h9 hb
          have hb := Nat.eq_of_beq_eq_true hb
          obtain ⟨e2, e3⟩ := xk_const hq1 (by omega) (by omega)
          split at h
          · rename_i z e5
            refine ⟨_, _, _, ?_, hl, wtS_cons (v := vI _) (wtS_tl (wtS_tl hs)) trivial, h.2⟩
            intro e w
            unfold xone
            dsimp only [cvS, List.map, cv]
            rw [e2, e5]
            exact if_pos h.1
          · exact h.elim
        · exact h.elim
    · exact h.elim
  · unfold vone at h
    dsimp only at h
    split at h
    · rename_i v j kd a r
      obtain ⟨hq1, hq2⟩ : wt (.inr (kd, a)) := wtS_hd (wtS_tl (wtS_tl hs))
      split at h
      · rename_i hb
        obtain ⟨rs, e2⟩ := xk_arr hq1 (Nat.eq_of_beq_eq_true hb) (by omega)
        refine ⟨_, _, _, ?_, hl, wtS_tl (wtS_tl (wtS_tl hs)), h.2⟩
        intro e w
        unfold xone
        dsimp only [cvS, List.map, cv]
        rw [e2]
        exact if_pos ⟨rfl, h.1⟩
      · split at h
        · rename_i h9 hb
          obtain ⟨rs, e2⟩ := xk_arr hq1 (Nat.eq_of_beq_eq_true hb) (by omega)
          refine ⟨_, _, _, ?_, hl, wtS_tl (wtS_tl (wtS_tl hs)), h.2.2⟩
          intro e w
          unfold xone
          dsimp only [cvS, List.map, cv]
          rw [e2]
          dsimp only
          rw [if_neg (fun h => absurd h.1 (by omega))]
          exact if_pos ⟨rfl, h.1, h.2.1⟩
        · exact h.elim
    · exact h.elim
  · unfold vone at h
    dsimp only at h
    split at h
    · rename_i v kd a r
      obtain ⟨hq1, hq2⟩ : wt (.inr (kd, a)) := wtS_hd (wtS_tl hs)
      split at h
      · rename_i hb
        rw [Nat.eq_of_beq_eq_true hb] at hq1
        obtain ⟨rs, e2, e3⟩ := xk_ring hq1
        have hj : ix v < 8 := by
          have := h.1
          unfold xin at this
          rw [Bool.and_eq_true] at this
          exact of_decide_eq_true this.2
        obtain ⟨e4, e5⟩ := e3 _ hj
        refine ⟨_, _, _, ?_, hl, wtS_cons (v := vR 8 _) (wtS_tl (wtS_tl hs)) ⟨e5, by omega⟩, h.2⟩
        intro e w
        unfold xone
        dsimp only [cvS, List.map, cv]
        rw [e2]
        dsimp only
        rw [if_pos ⟨Or.inl rfl, h.1⟩]
        unfold ix at e4
        rw [e4]; rfl
      · split at h
        · rename_i h9 hb
          rw [Nat.eq_of_beq_eq_true hb] at hq1
          obtain ⟨rs, e2, e3⟩ := xk_slots hq1
          have hj : ix v < 2 := by
            have := h.1
            unfold xin at this
            rw [Bool.and_eq_true] at this
            exact of_decide_eq_true this.2
          obtain ⟨e4, e5⟩ := e3 _ hj
          refine ⟨_, _, _, ?_, hl, wtS_cons (v := vR 8 _) (wtS_tl (wtS_tl hs)) ⟨e5, by omega⟩, h.2⟩
          intro e w
          unfold xone
          dsimp only [cvS, List.map, cv]
          rw [e2]
          dsimp only
          rw [if_pos ⟨Or.inl rfl, h.1⟩]
          unfold ix at e4
          rw [e4]; rfl
        · exact h.elim
    · exact h.elim
  · unfold vone at h
    dsimp only at h
    split at h
    · rename_i kd a r
      obtain ⟨hq1, hq2⟩ : wt (.inr (kd, a)) := wtS_hd hs
      split at h
      · rename_i hb
        simp only [Bool.or_eq_true] at hb
        refine ⟨_, _, _, ?_, hl, wtS_cons (v := vI _) (wtS_tl hs) trivial, h⟩
        intro e w
        unfold xone
        dsimp only [cvS, List.map, cv]
        have : ∃ c rs, S0[a]? = some (c, kd % 10000, rs) ∧ (c = 20 ∨ c = 21 ∨ c = 22 ∨ c = 25) := by
          rcases hb with ((hb | hb) | hb) | hb
          · obtain ⟨rs, e2⟩ := xk_arr hq1 (Nat.eq_of_beq_eq_true hb) (by omega)
            exact ⟨_, _, e2, Or.inl rfl⟩
          · obtain ⟨rs, e2⟩ := xk_arr hq1 (Nat.eq_of_beq_eq_true hb) (by omega)
            exact ⟨_, _, e2, Or.inr (Or.inl rfl)⟩
          · obtain ⟨rs, e2⟩ := xk_arr hq1 (Nat.eq_of_beq_eq_true hb) (by omega)
            exact ⟨_, _, e2, Or.inr (Or.inr (Or.inl rfl))⟩
          · obtain ⟨rs, e2⟩ := xk_arr hq1 (Nat.eq_of_beq_eq_true hb) (by omega)
            exact ⟨_, _, e2, Or.inr (Or.inr (Or.inr rfl))⟩
        obtain ⟨c, rs, e2, e3⟩ := this
        rw [e2]
        exact if_pos e3
      · split at h
        · rename_i h9 hb
          have hb := Nat.eq_of_beq_eq_true hb
          obtain ⟨e2, e3⟩ := xk_const hq1 (by omega) (by omega)
          split at h
          · rename_i z e5
            refine ⟨_, _, _, ?_, hl, wtS_cons (v := vI _) (wtS_tl hs) trivial, h⟩
            intro e w
            unfold xone
            dsimp only [cvS, List.map, cv]
            have e6 : xci xK0 a = none := by
              unfold xci
              rw [if_neg (by omega), if_neg (by omega), if_neg (by omega)]
            rw [e2, e6, e5]; rfl
          · exact h.elim
        · exact h.elim
    · exact h.elim
theorem vone_ok {i : Instr} {al : AL} {st : List AV} {m : XM} {k : AL → List AV → XM → Prop} (h : vone i al st m k) (hl : wtL al) (hs : wtS st) : vgoes i al st m k := by
  by_cases hi : (∃ f, i = .getfield f) ∨ (∃ f, i = .putfield f) ∨ i = .iaload ∨ i = .iastore ∨ i = .baload ∨ i = .bastore ∨ i = .aaload ∨ i = .arraylength
  · exact vone_ok2 h hl hs hi
  · refine vone_ok1 h hl hs ?_ ?_ ?_ ?_ ?_ ?_ ?_ ?_
    · exact fun f e => hi (Or.inl ⟨f, e⟩)
    · exact fun f e => hi (Or.inr (Or.inl ⟨f, e⟩))
    · exact fun e => hi (by rw [e]; simp)
    · exact fun e => hi (by rw [e]; simp)
    · exact fun e => hi (by rw [e]; simp)
    · exact fun e => hi (by rw [e]; simp)
    · exact fun e => hi (by rw [e]; simp)
    · exact fun e => hi (by rw [e]; simp)
