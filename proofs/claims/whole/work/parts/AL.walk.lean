/-! THE LAW'S WALK OUT OF ITS RUN -/
section LW
variable {P : mP} {m d : Nat} {sc : Bool} {p : Program} {l : Launch} {e : Env} {R : Room} {s : State} {mid : MethodId} {args : Array Value} {below : List Frame} {meth : Method} {c : Code} {D : va_G} {aC : FieldType → ClassId} {ad0 : Nat → Nat} {n0 : Nat} {M0 : mM} {A : Nat → Prop} {Q : State → Prop}
variable {pc u : Nat} {L S : List mV} {σ : mS}
theorem law_W (F : Fx prog 299 601 true p l e R s mid args below meth c D aC ad0 n0 M0 A) (h0 : M0 0 0 = 70 ∧ M0 0 1 = 50 ∧ M0 0 2 = 0 ∧ M0 0 3 = 1 ∧ M0 0 4 = 1 ∧ M0 0 5 = 1) (h1 : M0 1 0 = 55 ∧ M0 1 1 = 10 ∧ M0 1 2 = 0 ∧ M0 1 3 = 1 ∧ M0 1 4 = 1 ∧ M0 1 5 = 1) (h2 : M0 2 0 = 95 ∧ M0 2 1 = 90 ∧ M0 2 2 = 3 ∧ M0 2 3 = 9 ∧ M0 2 4 = 9 ∧ M0 2 5 = 9) (hlen : 0 ≤ M0 4 0 ∧ M0 4 0 ≤ 3072) (hst : l.stackTraces = false)
    (hret : ∀ M' pc u L S, u ≤ (prog 299).1.2.2.2.2.1 → retAt prog 299 pc (some (vi 1)) S → WG prog 299 p l e R s mid args below meth c D aC ad0 n0 M0 A Q pc u L S (shp, M')) : WG prog 299 p l e R s mid args below meth c D aC ad0 n0 M0 A Q (pcB prog 299 0) 0 [vr 3, vj, vj, vj, vj, vj, vj, vj, vj, vj] [] (mRo, M0) := by
  obtain ⟨M', hr⟩ := law_runs h0 h1 h2 hlen 0
  have hF : Fin prog 299 p l e R s mid args below meth c D aC ad0 n0 M0 A Q (.inl (some (vi 1))) (shp, M') := ⟨fun v hv pc u L S hu hr => by cases hv; exact hret M' pc u L S hu hr, fun ex h => (by cases h), fun ex h => (by cases h)⟩
  exact ev_ok F hst prog_ok chk_law hF (Nat.zero_le _) hr
end LW
