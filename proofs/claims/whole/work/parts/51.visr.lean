/-! THE VISIBLE POINTS FROM A NUMBER ON -/
def visR (M : mM) : Nat → Nat → List Int
  | _, 0 => []
  | p, q + 1 => match p125 (p : Int) M with
    | true => (p : Int) :: visR M (p + 1) q
    | false => visR M (p + 1) q
theorem visR_L (M : mM) : ∀ (q p : Nat), visL M (p + q) = visL M p ++ visR M p q
  | 0, p => by
    show visL M p = visL M p ++ []
    rw [List.append_nil]
  | q + 1, p => by
    have ih := visR_L M q (p + 1)
    rw [show p + (q + 1) = p + 1 + q by omega, ih, visL_s]
    show _ = visL M p ++ (match p125 (p : Int) M with
      | true => (p : Int) :: visR M (p + 1) q
      | false => visR M (p + 1) q)
    cases p125 (p : Int) M with
    | true => exact List.append_assoc (visL M p) [(p : Int)] (visR M (p + 1) q)
    | false => rfl
theorem visR_0 (M : mM) (n : Nat) : visR M 0 n = visL M n := by
  have := visR_L M n 0
  rw [Nat.zero_add] at this
  rw [this]
  rfl
theorem visR_s {M : mM} {p q : Nat} : visR M p (q + 1) = match p125 (p : Int) M with
    | true => (p : Int) :: visR M (p + 1) q
    | false => visR M (p + 1) q := rfl
