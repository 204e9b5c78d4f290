/-! THE SMALL MACHINE'S STATE IN THE HEAP -/
abbrev mcl : List vw_C := [(RX0, TX0, 5), (RX1, TX1, 2), (RX2, TX2, 6), (RX3, TX3, 9), (RX4, TX4, 10), (RX5, TX5, 5), (RX6, TX6, 4), (RX7, TX7, 7), (RX8, TX8, 12), (RX9, TX9, 6), (RX10, TX10, 19)]
def mty (k : Nat) : Nat → FieldType := match k with
  | 0 => tyX0
  | 1 => tyX1
  | 2 => tyX2
  | 3 => tyX3
  | 4 => tyX4
  | 5 => tyX5
  | 6 => tyX6
  | 7 => tyX7
  | 8 => tyX8
  | 9 => tyX9
  | _ => tyX10
def lw_gd : List Cond := lw_tbl.filter goodWord
def mNg (w : Cond) : Bool := match w with
  | .methodLinkNest .. => true
  | .fieldLinkNest .. => true
  | .declares .. => true
  | .castable .. => true
  | _ => false
def lw_ng : List Cond := lw_tbl.filter mNg
theorem gd_mem {w : Cond} {i : Nat} (h : lw_tbl[i]? = some w) (hg : goodWord w = true) : w ∈ lw_gd := List.mem_filter.mpr ⟨List.mem_of_getElem? h, hg⟩
theorem ng_mem {w : Cond} {i : Nat} (h : lw_tbl[i]? = some w) (hg : mNg w = true) : w ∈ lw_ng := List.mem_filter.mpr ⟨List.mem_of_getElem? h, hg⟩
theorem gd_good : ∀ w ∈ lw_gd, goodWord w = true := fun w h => (List.mem_filter.mp h).2
theorem gd_all {ws : List Cond} (h : ws.all (fun w => decide (w ∈ lw_tbl) && goodWord w) = true) : ∀ w ∈ ws, w ∈ lw_gd := fun w hw => by
  have h1 := List.all_eq_true.mp h w hw
  simp only [Bool.and_eq_true, decide_eq_true_eq] at h1
  exact List.mem_filter.mpr h1
theorem mcl_ws : ∀ (c : Nat) (q : vw_C), mcl[c]? = some q → ∀ w ∈ u_ws q.1 q.2.1 q.2.2, w ∈ lw_gd := by
  intro c q hq
  match c, hq with
  | 0, hq => cases hq; exact gd_all (by decide +kernel)
  | 1, hq => cases hq; exact gd_all (by decide +kernel)
  | 2, hq => cases hq; exact gd_all (by decide +kernel)
  | 3, hq => cases hq; exact gd_all (by decide +kernel)
  | 4, hq => cases hq; exact gd_all (by decide +kernel)
  | 5, hq => cases hq; exact gd_all (by decide +kernel)
  | 6, hq => cases hq; exact gd_all (by decide +kernel)
  | 7, hq => cases hq; exact gd_all (by decide +kernel)
  | 8, hq => cases hq; exact gd_all (by decide +kernel)
  | 9, hq => cases hq; exact gd_all (by decide +kernel)
  | 10, hq => cases hq; exact gd_all (by decide +kernel)
  | k + 11, hq => simp [mcl] at hq
theorem mcl_ty : ∀ (c : Nat) (q : vw_C), mcl[c]? = some q → (∀ k, k < q.2.2 → parseFieldDescriptor (q.2.1 k).2.2.1 = some (mty c k)) ∧ (∀ a, a < q.2.2 → ∀ b, b < q.2.2 → a ≠ b → (q.2.1 a).2.1 ≠ (q.2.1 b).2.1) := by
  intro c q hq
  match c, hq with
  | 0, hq => cases hq; exact ⟨tyX0_ok, nmX0⟩
  | 1, hq => cases hq; exact ⟨tyX1_ok, nmX1⟩
  | 2, hq => cases hq; exact ⟨tyX2_ok, nmX2⟩
  | 3, hq => cases hq; exact ⟨tyX3_ok, nmX3⟩
  | 4, hq => cases hq; exact ⟨tyX4_ok, nmX4⟩
  | 5, hq => cases hq; exact ⟨tyX5_ok, nmX5⟩
  | 6, hq => cases hq; exact ⟨tyX6_ok, nmX6⟩
  | 7, hq => cases hq; exact ⟨tyX7_ok, nmX7⟩
  | 8, hq => cases hq; exact ⟨tyX8_ok, nmX8⟩
  | 9, hq => cases hq; exact ⟨tyX9_ok, nmX9⟩
  | 10, hq => cases hq; exact ⟨tyX10_ok, nmX10⟩
  | k + 11, hq => simp [mcl] at hq
def vv (ad : Nat → Nat) : mV → Value
  | .inl x => .int (Int32.ofInt x)
  | .inr (.inl none) => .null
  | .inr (.inl (some k)) => .ref (ad k)
  | .inr (.inr (.inl x)) => .long (Int64.ofInt x)
  | .inr (.inr (.inr (.inl x))) => .double x
  | .inr (.inr (.inr (.inr ()))) => .null
def okV (n : Nat) : mV → Prop
  | .inl x => inR x
  | .inr (.inl (some k)) => k < n
  | .inr (.inr (.inl x)) => inR x
  | _ => True
theorem vv_cat (ad : Nat → Nat) (v : mV) : (vv ad v).category = match c2 v with
  | true => 2
  | false => 1 := by
  rcases v with x | (_ | k) | x | x | u <;> rfl
/-- on the stack: what isn't known is some reference -/
def sv (ad : Nat → Nat) (v : mV) (x : Value) : Prop := x = vv ad v ∨ (v = vj ∧ ∃ q, x = .ref q)
theorem sv_cat {ad : Nat → Nat} {v : mV} {x : Value} (h : sv ad v x) : x.category = match c2 v with
  | true => 2
  | false => 1 := by
  rcases h with h | ⟨h, q, hq⟩
  · rw [h]; exact vv_cat ad v
  · rw [h, hq]; rfl
def sR (ad : Nat → Nat) (n : Nat) : List mV → List Value → Prop
  | [], [] => True
  | v :: S, x :: st => (sv ad v x ∧ okV n v) ∧ sR ad n S st
  | _, _ => False
def lR (ad : Nat → Nat) (n : Nat) (L : List mV) (ls : Array Slot) (nL : Nat) : Prop :=
  L.length ≤ nL ∧ ∃ lv, lv_has ls nL lv ∧ ∀ (i : Nat) (v : mV), L[i]? = some v → v ≠ vj → okV n v ∧ (i, vv ad v) ∈ lv
def mE (aC : FieldType → ClassId) (ad : Nat → Nat) (sh : mSh) (f : Nat → Int) : va_E := match sh with
  | (0, ci, fs) => .inr (ci, (List.range fs.length).map fun j => match fs[j]? with
    | some (some t) => vv ad (.inr (.inl t))
    | _ => .int (Int32.ofInt (f j)))
  | (1, n, _) => .inl (aC .int, n, .inl fun j => Int32.ofInt (f j))
  | (2, n, _) => .inl (aC .char, n, .inl fun j => Int32.ofInt (f j))
  | (3, n, _) => .inl (aC .long, n, .inr (.inl fun j => Int64.ofInt (f j)))
  | (_, n, _) => .inl (aC .double, n, .inr (.inr (.inr (.inl fun j => UInt64.ofNat (f j).toNat))))
def mws (aC : FieldType → ClassId) (ad : Nat → Nat) (σ : mS) : va_W := (List.range (σ.1.length - 5)).map fun i => (ad (i + 5), mE aC ad (σ.1.getD (i + 5) (9, 0, [])) (σ.2 (i + 5)))
def mRo : List mSh := [(5, 6, []), (5, 6, []), (5, 6, []), (6, 0, []), (7, 0, [])]
def mShOk (n : Nat) (sh : mSh) : Prop := match sh with
  | (0, ci, fs) => (∃ q : vw_C, mcl[ci]? = some q ∧ q.2.2 = fs.length) ∧ ∀ t, some (some t) ∈ fs → t < n
  | (k, q, _) => k ≤ 4 ∧ q ≤ 2100
def mWf (σ : mS) : Prop := 5 ≤ σ.1.length ∧ σ.1.take 5 = mRo ∧ ∀ k sh, 5 ≤ k → σ.1[k]? = some sh → mShOk σ.1.length sh
def mRg (σ : mS) : Prop := ∀ k j, (∀ sh, σ.1[k]? = some sh → sh.1 ≠ 4) → inR (σ.2 k j)
def mWd (D : va_G) (aC : FieldType → ClassId) (ad : Nat → Nat) (σ : mS) (A : Nat → Prop) (H : Heap) : Prop :=
  va_P D mcl (mws aC ad σ) H ∧ va_D A (mws aC ad σ) ∧ mWf σ ∧ mRg σ
def mTy (aC : FieldType → ClassId) : List (ClassId × FieldType) := [(aC .int, .int), (aC .char, .char), (aC .long, .long), (aC .double, .double)]
/-- the five kinds of exceptions -/
def exN (e : Nat) : String := match e with
  | 0 => "java/lang/IllegalArgumentException"
  | 1 => "java/lang/IllegalStateException"
  | 2 => "java/util/NoSuchElementException"
  | 3 => "java/lang/IndexOutOfBoundsException"
  | _ => "java/lang/ArithmeticException"
def mKn (D : va_G) (aC : FieldType → ClassId) (U : State) : Prop :=
  va_K D mcl (mTy aC) U ∧ (∀ w ∈ lw_ng, va_Nw w U) ∧ (∀ own k tx, Cond.stringRef own k tx ∈ lw_tbl → ∃ a, vk_R own k tx a U) ∧ ∀ i j, i < 5 → j < 5 → i ≠ j → va_Nc (exN i) (exN j) U
/-- an array that nobody writes, as the Statement has it -/
def mT (t : Nat) (f : Nat → Int) (A : Nat → Prop) (U : State) (H : Heap) : Prop := va_T .int t 6 (fun j => .int (Int32.ofInt (f j))) A U H ∧ ∃ cell : Cell, H[t]? = some cell ∧ cell.slots.size = 6 ∧ U.vm.findClass "[I" = some cell.cls
def mSt0 (A : Nat → Prop) (ad : Nat → Nat) (M : mM) (U : State) (H : Heap) : Prop :=
  va_Z "SpatialPoints" "FIRST_VALUES" "[I" (.ref (ad 0)) A U H ∧ va_Z "SpatialPoints" "LEAST_VALUES" "[I" (.ref (ad 1)) A U H ∧ va_Z "SpatialPoints" "GREATEST_VALUES" "[I" (.ref (ad 2)) A U H ∧
  (∀ k, k < 3 → mT (ad k) (M k) A U H) ∧ vx_Zq Bundle.tN "UNASSIGNED_STACK" Bundle.steD A U H ∧ vx_Zq Bundle.tN "SUPPRESSED_SENTINEL" Bundle.listD A U H
