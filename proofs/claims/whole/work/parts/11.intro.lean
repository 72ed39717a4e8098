/-! what the printed walks stand on -/
section R7
variable {G : sG} {l : Launch} {d : Nat} {y : MethodName} {cc : ByteArray} {mL : Nat} {ret : Option FieldType} {M0 : sMem} {r : Option Value} {M' : sMem} {pc : Nat} {ls : List (Option Value)} {st : List Value} {M : sMem} {γ δ : Type} {K : γ → Prop} {α β : Type}
theorem sX_map {k : Option δ} {g : δ → γ} (h : sX G l d y cc mL ret M0 r M' pc ls st M k (fun x => K (g x))) : sX G l d y cc mL ret M0 r M' pc ls st M (k.map g) K := by
  intro x h1 h2 hm
  obtain ⟨z, h3, rfl⟩ := Option.map_eq_some_iff.mp h1
  exact h z h3 h2 hm
theorem sC_m {vs : List Value} {R : Type} {rv : R → Option Value} {k : Option (R × sMem)} (hy : plainFor y = true) (hls : sEn vs mL = ls) (hn : (vs.map fun v => v.category).sum ≤ mL) (h : ∀ (r : Option Value) (M' : sMem) (K : R × sMem → Prop), (∀ x, K x → rv x.1 = r ∧ x.2 = M') → sX G l d y cc mL ret M r M' 0 ls [] M k K) : sC G l d y cc mL ret vs M rv k :=
  sC_intro hy hls hn (fun r M' => h r M' _ (fun _ h => h))
theorem sC_p {vs : List Value} {R : Type} {rv : R → Option Value} {k : Option R} (hy : plainFor y = true) (hls : sEn vs mL = ls) (hn : (vs.map fun v => v.category).sum ≤ mL) (h : ∀ (r : Option Value) (M' : sMem) (K : R → Prop), (∀ x, K x → rv x = r ∧ M = M') → sX G l d y cc mL ret M r M' 0 ls [] M k K) : sCp G l d y cc mL ret vs M rv k :=
  sC_intro hy hls hn (fun r M' => sX_map (h r M' _ (fun _ h => h)))
theorem sC_v {vs : List Value} {k : Option sMem} (hy : plainFor y = true) (hls : sEn vs mL = ls) (hn : (vs.map fun v => v.category).sum ≤ mL) (h : ∀ (r : Option Value) (M' : sMem) (K : sMem → Prop), (∀ x, K x → none = r ∧ x = M') → sX G l d y cc mL ret M r M' 0 ls [] M k K) : sCv G l d y cc mL ret vs M k :=
  sC_intro hy hls hn (fun r M' => sX_map (h r M' _ (fun _ h => h)))
theorem sRc_some {c n o : Nat} {b : Option γ} {z : γ} (h : sRc c n M o b = some z) : M.1[o]? = some (c, n) := by
  unfold sRc at h
  split at h
  · assumption
  · cases h
theorem sX_rc {c n o : Nat} {k : Option γ} (h : sX G l d y cc mL ret M0 r M' pc ls st M k K) : sX G l d y cc mL ret M0 r M' pc ls st M (sRc c n M o k) K := sX_g (fun _ => h)
theorem sX_loop {f : α → Option (α ⊕ β)} {LS : α → List (Option Value)} {MM : α → sMem} {KE : β → Prop}
    (h : ∀ K1 : α ⊕ β → Prop, (∀ a, K1 (.inl a) → sW G l d y cc mL ret M0 r M' pc (LS a) [] (MM a)) → (∀ b, K1 (.inr b) → KE b) → ∀ a, sX G l d y cc mL ret M0 r M' pc (LS a) [] (MM a) (f a) K1) :
    ∀ (n : Nat) (a : α), sX G l d y cc mL ret M0 r M' pc (LS a) [] (MM a) (sItr f n a) KE :=
  sX_itr (fun a => h _ (fun _ h => h) (fun _ h => h) a)
theorem sX_back {K1 : α ⊕ β → Prop} {LS : α → List (Option Value)} {MM : α → sMem} {a : α} (hb : ∀ a, K1 (.inl a) → sW G l d y cc mL ret M0 r M' pc (LS a) [] (MM a)) (hM : MM a = M) (hl : sLe (LS a) ls) : sX G l d y cc mL ret M0 r M' pc ls [] M (some (.inl a)) K1 :=
  sX_some (fun h _ => (hM ▸ hb a h).le hl)
theorem sX_exit {K1 : α ⊕ β → Prop} {cont : β → Option γ} {b : β} (he : ∀ b, K1 (.inr b) → ∃ x, cont b = some x ∧ K x) (hx : sX G l d y cc mL ret M0 r M' pc ls st M (cont b) K) : sX G l d y cc mL ret M0 r M' pc ls st M (some (.inr b)) K1 :=
  sX_some (fun h hm => by obtain ⟨x, h1, h2⟩ := he b h; exact hx x h1 h2 hm)
theorem sLe_e {b : List (Option Value)} : sLe [] b := trivial
theorem sLe_n {a b : List (Option Value)} {w : Option Value} (h : sLe a b) : sLe (none :: a) (w :: b) := h
theorem sLe_s {a b : List (Option Value)} {v : Value} (h : sLe a b) : sLe (some v :: a) (some v :: b) := ⟨rfl, h⟩
end R7
