/-! The march's text parses. -/
theorem qset_b {i : Nat} (h : i < 6) : setLo i ≤ qlo.getD i 0 ∧ qhi.getD i 0 ≤ setHi i ∧ qhi.getD i 0 < 100 := by
  have H : ∀ i, i < 6 → setLo i ≤ qlo.getD i 0 ∧ qhi.getD i 0 ≤ setHi i ∧ qhi.getD i 0 < 100 := by decide +kernel
  exact H i h
theorem qtext_len {m : XM} {b nb np ns : Nat} {wd : Nat → List Int32} (hw : ∀ i, (wd i).length ≤ 4) : (qtext m b nb np ns wd).length ≤ 24 + 15 * nb + 11 * np + 20 * ns := by
  have l1 := qTset_len m b 6
  have l2 := qTbea_len m b (qTset m b 6) nb
  have l3 := qTpla_len m b (qTbea m b (qTset m b 6) nb) np
  have l4 := qTsta_len m b wd (qTpla m b (qTbea m b (qTset m b 6) nb) np) hw ns
  unfold qtext
  omega
theorem qparse {S : List XC} {m : XM} {a b L nb ns np : Nat} {ws : List (Option Nat)} {wd : Nat → List Int32} (hV : qMV S m a b L nb ns np nb ns np ws) (hW : qWd S m b L ws ns wd) :
    ∃ q, parF (fun i => ix ((qtext m b nb np ns wd).getD i 0)) (qtext m b nb np ns wd).length (fun _ => n32 0) = Sum.inr q ∧ q.1 6 = n32 nb ∧ q.1 7 = n32 ns ∧ q.1 8 = n32 np ∧ (∀ k, k < nb → qBk q.1 (q.1 0) k) ∧ (∀ k, k < np → q.1 (171 + 3 * k + 2) = n32 0) ∧ (∀ k, k < ns → q.1 (99 + 12 * k + 2) = n32 (wd k).length) ∧ ∀ k, k < 6 → q.1 k = n32 (ix (m b k)) := by
  have hnb := hV.2.2.1.2
  have hns := hV.2.2.2.1.2
  have hnp := hV.2.2.2.2.1.2
  have hset : ∀ i, i < 6 → setLo i ≤ ix (m b i) ∧ ix (m b i) ≤ setHi i ∧ ix (m b i) < 100 := fun i hi => by
    obtain ⟨z1, z2, z3⟩ := qset_b hi
    obtain ⟨-, y2, y3⟩ := qNum_ix (hV.2.1 i hi) (by omega)
    exact ⟨by omega, by omega, by omega⟩
  have hb : ∀ i, i < nb → (1 ≤ ix (m (b + 2) i) ∧ ix (m (b + 2) i) ≤ 2) ∧ (1 ≤ ix (m (b + 4) i) ∧ ix (m (b + 4) i) < 100) ∧ ix (m (b + 5) i) ≤ 20 := fun i hi => by
    obtain ⟨b2, b4, b5⟩ := hV.2.2.2.2.2.1 i hi
    obtain ⟨-, u2, u3⟩ := qNum_ix b2 (by omega)
    obtain ⟨-, f2, f3⟩ := qNum_ix b4 (by omega)
    obtain ⟨-, w2, w3⟩ := qNum_ix b5 (by omega)
    exact ⟨⟨u2, u3⟩, ⟨f2, by omega⟩, w3⟩
  have hp : ∀ i, i < np → (1 ≤ ix (m (b + 11) i) ∧ ix (m (b + 11) i) < 100) ∧ ix (m (b + 12) i) + 2 ≤ nb := fun i hi => by
    obtain ⟨b2, b4⟩ := hV.2.2.2.2.2.2.2 i hi
    obtain ⟨-, u2, u3⟩ := qNum_ix b2 (by omega)
    obtain ⟨-, f2, f3⟩ := qNum_ix b4 (by omega)
    exact ⟨⟨u2, by omega⟩, by omega⟩
  have hs : ∀ i, i < ns → ix (m (b + 9) i) < 100 ∧ 1 ≤ (wd i).length ∧ (wd i).length ≤ 8 ∧ ∀ x ∈ wd i, x = n32 97 ∨ x = n32 98 := fun i hi => by
    obtain ⟨-, b9, -⟩ := hV.2.2.2.2.2.2.1 i hi
    obtain ⟨-, f2, f3⟩ := qNum_ix b9 (by omega)
    obtain ⟨t, v, -, -, w1, w2⟩ := hW.2 i hi
    have := hW.1 i
    exact ⟨by omega, w1, by omega, w2⟩
  have he := qtext_ix (m := m) (b := b) (nb := nb) (np := np) (ns := ns) (wd := wd) (fun i hi => (hset i hi).2.2) (fun i hi => ⟨(hb i hi).1.2, (hb i hi).2.1.2, by have := (hb i hi).2.2; omega⟩) (fun i hi => ⟨(hp i hi).1.2, by have := (hp i hi).2; omega⟩) (fun i hi => (hs i hi).1)
  have hl : ((qtext m b nb np ns wd).map ix).length = (qtext m b nb np ns wd).length := List.length_map _
  have hat : qAt (fun i => ix ((qtext m b nb np ns wd).getD i 0)) (qtext m b nb np ns wd).length 0 ((qtext m b nb np ns wd).map ix) := by
    refine ⟨by rw [hl]; omega, fun i hi => ?_⟩
    rw [hl] at hi
    rw [Nat.zero_add]
    show ix ((qtext m b nb np ns wd).getD i 0) = _
    rw [List.getD_eq_getElem?_getD, List.getD_eq_getElem?_getD, List.getElem?_map, List.getElem?_eq_getElem hi]
    rfl
  rw [he] at hat hl
  exact parF_pr (v := fun k => ix (m b k)) ⟨hnb.1, by omega⟩ (by omega) ⟨hns.1, by omega⟩ hset hb hp hs hat hl.symm
