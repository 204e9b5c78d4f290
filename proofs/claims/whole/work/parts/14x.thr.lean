/-! THE WORDS OF THE EXCEPTIONS -/
def exI (e : Nat) : Nat := match e with
  | 0 => 64
  | 1 => 81
  | 2 => 96
  | 3 => 213
  | _ => 146
def exS : List String := ["java/lang/RuntimeException", "java/lang/Exception"]
def exX (e : Nat) : Nat := match e with
  | 2 => 13
  | _ => 7
def exB (e : Nat) : ByteArray := match e with
  | 2 => prog_27_method_4_code
  | _ => Bundle.six
theorem thr_ws : ∀ ex, ex < 5 → ∀ w ∈ nx_at RX9 (exI ex) (exN ex) (exX ex) (exB ex) exS, w ∈ lw_gd ∨ w ∈ lw_ng := by
  have key : ∀ ws : List Cond, ws.all (fun w => decide (w ∈ lw_tbl) && (goodWord w || mNg w)) = true → ∀ w ∈ ws, w ∈ lw_gd ∨ w ∈ lw_ng := by
    intro ws h w hw
    have h1 := List.all_eq_true.mp h w hw
    simp only [Bool.and_eq_true, decide_eq_true_eq, Bool.or_eq_true] at h1
    rcases h1.2 with h2 | h2
    · exact Or.inl (List.mem_filter.mpr ⟨h1.1, h2⟩)
    · exact Or.inr (List.mem_filter.mpr ⟨h1.1, h2⟩)
  intro ex hex
  rcases (show ex = 0 ∨ ex = 1 ∨ ex = 2 ∨ ex = 3 ∨ ex = 4 by omega) with rfl | rfl | rfl | rfl | rfl
  · exact key _ (by decide +kernel)
  · exact key _ (by decide +kernel)
  · exact key _ (by decide +kernel)
  · exact key _ (by decide +kernel)
  · exact key _ (by decide +kernel)
theorem thr_dec : ∀ ex, ex < 5 → decode (exB ex) 0 = .ok (.aload_n 0, 1) ∧ decode (exB ex) 1 = .ok (.aload_n 1, 1) ∧ decode (exB ex) 2 = .ok (.invokespecial (exX ex), 3) ∧ decode (exB ex) 5 = .ok (.return_, 1) := by
  intro ex hex
  rcases (show ex = 0 ∨ ex = 1 ∨ ex = 2 ∨ ex = 3 ∨ ex = 4 by omega) with rfl | rfl | rfl | rfl | rfl <;> exact ⟨by decide +kernel, by decide +kernel, by decide +kernel, by decide +kernel⟩
theorem thr_in : ∀ ex, ex < 5 → Cond.initialized (exN ex) ∈ lw_gd := by
  intro ex hex
  rcases (show ex = 0 ∨ ex = 1 ∨ ex = 2 ∨ ex = 3 ∨ ex = 4 by omega) with rfl | rfl | rfl | rfl | rfl
  · exact gd_all (ws := [Cond.initialized (exN 0)]) (by decide +kernel) _ (List.mem_singleton.mpr rfl)
  · exact gd_all (ws := [Cond.initialized (exN 1)]) (by decide +kernel) _ (List.mem_singleton.mpr rfl)
  · exact gd_all (ws := [Cond.initialized (exN 2)]) (by decide +kernel) _ (List.mem_singleton.mpr rfl)
  · exact gd_all (ws := [Cond.initialized (exN 3)]) (by decide +kernel) _ (List.mem_singleton.mpr rfl)
  · exact gd_all (ws := [Cond.initialized (exN 4)]) (by decide +kernel) _ (List.mem_singleton.mpr rfl)
theorem thr_fit : ∀ ex, ex < 5 → Bundle.fit (exN ex) = true := by
  intro ex hex
  rcases (show ex = 0 ∨ ex = 1 ∨ ex = 2 ∨ ex = 3 ∨ ex = 4 by omega) with rfl | rfl | rfl | rfl | rfl <;> decide +kernel
