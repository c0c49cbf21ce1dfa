/-! Pair: strengthen. -/
theorem SI_str {g : PG} {T N b : Nat} {v : Int32} (h : SI g T N) (hb : b < nBr g) : SI (strG g b v) T N := by
  have a2 := h.w.nb
  have a6 := h.w.np
  exact SI_of h (WF_strG h.w hb) (strG_at (by omega)) (strG_at (by omega)) (strG_at (by omega)) (fun k hk => ⟨strG_at (by omega), strG_at (by omega)⟩) (fun c hc => strG_at (by omega))
section STH
variable {D : Nat} {m : XM} {E : Nat → XM → Prop}
theorem CPL_le {m : XM} {N N' : Nat} (h : CPL m N) (hN : N ≤ N') : CPL m N' := CPL_fr h hN (fun _ _ _ => rfl)
end STH

