/-! WHAT READING LEAVES: tables' sizes, rows -/
section KE2
variable {u : Nat → Nat → Int32} {M N : sMem} {D Do G : Nat} {c0 : List Nat}
theorem sf_tw (hA : PA M) (hD : (D = 10 ∧ Do = 32) ∨ (D = 32 ∧ Do = 10)) (hF : SF D M N) (h : TWa M Do) : TWa N Do := fun kd hk => (h kd hk).of (fun i => by
  have := mx_le hk
  exact sf_v hA (by omega) hF (by omega) (tp_out (by omega)) (by omega))
theorem sf_rows (hA : PA M) (hD : D = 10 ∨ D = 32) (hF : SF D M N) (h : RowsI u M G c0) : RowsI u N G c0 := by
  have hl := hA.1
  have r77 : ∀ w, N.2.2.2 77 w = M.2.2.2 77 w := fun w => hF.2.2.2.1 77 w (by omega) (fun i hi z => by have := z.1; unfold pr3 at this; omega)
  have i78 : ∀ w, N.2.1 78 w = M.2.1 78 w := fun w => sf_v hA hD hF (by decide) rfl (by omega)
  obtain ⟨h1, h2, h3⟩ := h
  refine ⟨fun w q hw hq => ?_, fun w w' q hw hw' a b => h2 w w' q hw hw' (by rw [← r77]; exact a) (by rw [← r77]; exact b), fun w hw hm => ?_⟩
  · rw [r77] at hq
    exact ⟨(h1 w q hw hq).1, hF.1 _ _ (h1 w q hw hq).2⟩
  · rw [i78] at hm
    obtain ⟨q, q1, q2⟩ := h3 w hw hm
    refine ⟨q, by rw [r77]; exact q1, fun g m hg hm2 => ?_⟩
    have hlt := lt_of_sh (h1 w q hw q1).2
    have e1 : N.2.2.1 q = M.2.2.1 q := by funext k; exact hF.2.2.1 q k hlt
    rw [e1]; exact q2 g m hg hm2
end KE2
