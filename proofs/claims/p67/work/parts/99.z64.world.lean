/-! The world of the real heap that stands for X's heap. -/
def xre (ad : Nat → Nat) (sv : Value) : Value → Value
  | .ref a => .ref (ad a)
  | .retAddr _ => sv
  | v => v
def xfv (ad : Nat → Nat) (m : XM) (a : Nat) (x : XC) (k : Nat) : Value := if xref x.1 k then va_rf ((x.2.2.getD k none).map ad) else .int (m a k)
def xcell (ad : Nat → Nat) (cA : Nat → ClassId) (w : Nat → Value) (m : XM) (a : Nat) (x : XC) : va_E :=
  if x.1 < 20 then .inr (x.1, (List.range x.2.1).map (xfv ad m a x))
  else if x.1 = 23 then .inl (cA 23, x.2.1, .inr (.inl (fun j => if j = 0 then xtl (w a) else 0)))
  else if x.1 = 24 then .inl (cA 24, x.2.1, .inr (.inr (.inr (.inl (fun j => if j = 0 then xtd (w a) else 0)))))
  else if x.1 = 25 then .inl (cA 25, x.2.1, .inr (.inr (.inr (.inr (fun k => (x.2.2.getD k none).map ad)))))
  else if x.1 = 26 then .inl (cA 26, x.2.1, .inr (.inr (.inr (.inr (fun k => (x.2.2.getD k none).map ad)))))
  else .inl (cA x.1, x.2.1, .inl (m a))
def xws (ad : Nat → Nat) (cA : Nat → ClassId) (σ : XS) : va_W := σ.1.mapIdx (fun a x => (ad a, xcell ad cA σ.2.2.1 σ.2.2.2 a x))
abbrev xtys (cA : Nat → ClassId) : List (ClassId × FieldType) := [(cA 20, .int), (cA 21, .byte), (cA 22, .boolean), (cA 25, .object RX8), (cA 26, .object "java/lang/String")]
theorem xws_at {ad : Nat → Nat} {cA : Nat → ClassId} {σ : XS} {a : Nat} {x : XC} (h : σ.1[a]? = some x) : (xws ad cA σ)[a]? = some (ad a, xcell ad cA σ.2.2.1 σ.2.2.2 a x) := by
  unfold xws
  rw [List.getElem?_mapIdx, h]
  rfl
theorem xws_len {ad : Nat → Nat} {cA : Nat → ClassId} {σ : XS} : (xws ad cA σ).length = σ.1.length := by
  unfold xws; exact List.length_mapIdx
theorem xcell_um {ad : Nat → Nat} {cA : Nat → ClassId} {w : Nat → Value} {m : XM} {a a' k : Nat} {v : Int32} {x : XC} (h : a' ≠ a) : xcell ad cA w (um m a k v) a' x = xcell ad cA w m a' x := by
  have e : (um m a k v) a' = m a' := by
    funext j; unfold um; rw [if_neg (fun q => h q.1)]
  unfold xcell xfv
  rw [e]
theorem xcell_uz {ad : Nat → Nat} {cA : Nat → ClassId} {w : Nat → Value} {m : XM} {a a' : Nat} {x : XC} (h : a' ≠ a) : xcell ad cA w (uz m a) a' x = xcell ad cA w m a' x := by
  have e : (uz m a) a' = m a' := by
    funext j; unfold uz; rw [if_neg h]
  unfold xcell xfv
  rw [e]
theorem xcell_uw {ad : Nat → Nat} {cA : Nat → ClassId} {w : Nat → Value} {m : XM} {a a' : Nat} {v : Value} {x : XC} (h : a' ≠ a) : xcell ad cA (uw w a v) m a' x = xcell ad cA w m a' x := by
  have e : (uw w a v) a' = w a' := by unfold uw; rw [if_neg h]
  unfold xcell
  rw [e]
/-- one cell changes -/
theorem xws_set {ad : Nat → Nat} {cA : Nat → ClassId} {σ τ : XS} {a : Nat} {x : XC} (h : σ.1[a]? = some x) (hS : τ.1 = σ.1.set a x ∨ ∃ y, τ.1 = σ.1.set a y) (y : XC) (hy : τ.1[a]? = some y)
    (hne : ∀ a' z, a' ≠ a → xcell ad cA τ.2.2.1 τ.2.2.2 a' z = xcell ad cA σ.2.2.1 σ.2.2.2 a' z) : xws ad cA τ = (xws ad cA σ).set a (ad a, xcell ad cA τ.2.2.1 τ.2.2.2 a y) := by
  have hl : τ.1.length = σ.1.length := by rcases hS with e | ⟨z, e⟩ <;> rw [e, List.length_set]
  have ha : a < σ.1.length := (List.getElem?_eq_some_iff.mp h).1
  apply List.ext_getElem?
  intro i
  by_cases hi : i = a
  · subst hi
    rw [xws_at hy, List.getElem?_set_self (by rw [xws_len]; exact ha)]
  · rw [List.getElem?_set_ne (Ne.symm hi)]
    unfold xws
    rw [List.getElem?_mapIdx, List.getElem?_mapIdx]
    have e : τ.1[i]? = σ.1[i]? := by
      rcases hS with e | ⟨z, e⟩ <;> rw [e, List.getElem?_set_ne (Ne.symm hi)]
    rw [e]
    cases hz : σ.1[i]? with
    | none => rfl
    | some z => simp only [Option.map_some]; rw [hne i z hi]
theorem xws_um {ad : Nat → Nat} {cA : Nat → ClassId} {S : List XC} {e : Nat} {w : Nat → Value} {m : XM} {a k : Nat} {v : Int32} {x : XC} (h : S[a]? = some x) : xws ad cA (S, e, w, um m a k v) = (xws ad cA (S, e, w, m)).set a (ad a, xcell ad cA w (um m a k v) a x) :=
  xws_set (σ := (S, e, w, m)) (τ := (S, e, w, um m a k v)) h (Or.inl (by
    show S = S.set a x
    have hl := (List.getElem?_eq_some_iff.mp h)
    obtain ⟨h1, h2⟩ := hl
    rw [← h2, List.set_getElem_self])) x h (fun a' z q => xcell_um q)
theorem xws_uw {ad : Nat → Nat} {cA : Nat → ClassId} {S : List XC} {e : Nat} {w : Nat → Value} {m : XM} {a : Nat} {v : Value} {x : XC} (h : S[a]? = some x) : xws ad cA (S, e, uw w a v, m) = (xws ad cA (S, e, w, m)).set a (ad a, xcell ad cA (uw w a v) m a x) :=
  xws_set (σ := (S, e, w, m)) (τ := (S, e, uw w a v, m)) h (Or.inl (by
    show S = S.set a x
    have hl := (List.getElem?_eq_some_iff.mp h)
    obtain ⟨h1, h2⟩ := hl
    rw [← h2, List.set_getElem_self])) x h (fun a' z q => xcell_uw q)
theorem xws_cell {ad : Nat → Nat} {cA : Nat → ClassId} {S : List XC} {e : Nat} {w : Nat → Value} {m : XM} {a : Nat} {x y : XC} (h : S[a]? = some x) : xws ad cA (S.set a y, e, w, m) = (xws ad cA (S, e, w, m)).set a (ad a, xcell ad cA w m a y) :=
  xws_set (σ := (S, e, w, m)) (τ := (S.set a y, e, w, m)) h (Or.inr ⟨y, rfl⟩) y (by
    show (S.set a y)[a]? = some y
    rw [List.getElem?_set_self (List.getElem?_eq_some_iff.mp h).1]) (fun a' z q => rfl)
def xad (ad : Nat → Nat) (a q : Nat) : Nat → Nat := fun a' => if a' = a then q else ad a'
/-- references stay inside the cells that there are, or are constant -/
def xgood (S : List XC) : Prop := ∀ (a : Nat) (x : XC), S[a]? = some x → ∀ (k : Nat) (b : Nat), x.2.2.getD k none = some b → b < S.length ∨ 1000000 ≤ b
theorem xcell_ad {ad ad' : Nat → Nat} {cA : Nat → ClassId} {w : Nat → Value} {m : XM} {a : Nat} {x : XC} {n : Nat} (h : ∀ a', (a' < n ∨ 1000000 ≤ a') → ad' a' = ad a') (hg : ∀ (k : Nat) (b : Nat), x.2.2.getD k none = some b → b < n ∨ 1000000 ≤ b) : xcell ad' cA w m a x = xcell ad cA w m a x := by
  have e : ∀ k, (x.2.2.getD k none).map ad' = (x.2.2.getD k none).map ad := by
    intro k
    cases hk : x.2.2.getD k none with
    | none => rfl
    | some b => simp only [Option.map_some]; rw [h b (hg k b hk)]
  unfold xcell xfv
  simp only [e]
theorem xcell_ne {ad : Nat → Nat} {cA : Nat → ClassId} {w : Nat → Value} {m m' : XM} {a : Nat} {x : XC} (h : m' a = m a) : xcell ad cA w m' a x = xcell ad cA w m a x := by
  unfold xcell xfv
  rw [h]
/-- a new cell, whatever it holds -/
theorem xws_pushM {ad : Nat → Nat} {cA : Nat → ClassId} {S : List XC} {e : Nat} {w w' : Nat → Value} {m m' : XM} {q : Nat} {x : XC} (hS : S.length < 1000000) (hg : xgood S) (hw : ∀ a', a' ≠ S.length → w' a' = w a') (hm : ∀ a', a' ≠ S.length → m' a' = m a') : xws (xad ad S.length q) cA (S ++ [x], e, w', m') = xws ad cA (S, e, w, m) ++ [(q, xcell (xad ad S.length q) cA w' m' S.length x)] := by
  have hA : ∀ a', (a' < S.length ∨ 1000000 ≤ a') → (xad ad S.length q) a' = ad a' := fun a' h => by unfold xad; rw [if_neg (by omega)]
  apply List.ext_getElem?
  intro i
  unfold xws
  dsimp only
  rw [List.getElem?_mapIdx]
  rcases Nat.lt_trichotomy i S.length with hi | hi | hi
  · rw [List.getElem?_append_left hi, List.getElem?_append_left (by rw [List.length_mapIdx]; exact hi), List.getElem?_mapIdx]
    cases hz : S[i]? with
    | none => rfl
    | some z =>
      simp only [Option.map_some]
      have h1 : xcell (xad ad S.length q) cA w' m' i z = xcell ad cA w m i z := by
        rw [xcell_ne (hm i (by omega)), xcell_ad (n := S.length) hA (hg i z hz)]
        unfold xcell
        rw [hw i (by omega)]
      rw [h1, hA i (Or.inl hi)]
  · subst hi
    rw [List.getElem?_append_right (Nat.le_refl _), List.getElem?_append_right (by rw [List.length_mapIdx]; exact Nat.le_refl _), List.length_mapIdx, Nat.sub_self]
    have e1 : (xad ad S.length q) S.length = q := by unfold xad; rw [if_pos rfl]
    simp only [List.getElem?_cons_zero, Option.map_some, e1]
  · rw [List.getElem?_eq_none (by simp; omega), List.getElem?_eq_none (by simp; omega)]
    rfl
theorem xws_push {ad : Nat → Nat} {cA : Nat → ClassId} {S : List XC} {e : Nat} {w w' : Nat → Value} {m : XM} {q : Nat} {x : XC} (hS : S.length < 1000000) (hg : xgood S) (hw : ∀ a', a' ≠ S.length → w' a' = w a') : xws (xad ad S.length q) cA (S ++ [x], e, w', uz m S.length) = xws ad cA (S, e, w, m) ++ [(q, xcell (xad ad S.length q) cA w' (uz m S.length) S.length x)] :=
  xws_pushM hS hg hw (fun a' h => by funext j; unfold uz; rw [if_neg h])
/-- several numbers of one cell change -/
theorem xws_m {ad : Nat → Nat} {cA : Nat → ClassId} {S : List XC} {e : Nat} {w : Nat → Value} {m m' : XM} {a : Nat} {x : XC} (h : S[a]? = some x) (hm : ∀ a', a' ≠ a → m' a' = m a') : xws ad cA (S, e, w, m') = (xws ad cA (S, e, w, m)).set a (ad a, xcell ad cA w m' a x) :=
  xws_set (σ := (S, e, w, m)) (τ := (S, e, w, m')) h (Or.inl (by
    show S = S.set a x
    have hl := (List.getElem?_eq_some_iff.mp h)
    obtain ⟨h1, h2⟩ := hl
    rw [← h2, List.set_getElem_self])) x h (fun a' z q => xcell_ne (hm a' q))
