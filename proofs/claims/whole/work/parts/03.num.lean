/-! rows pasted from kit/rows (pk_), then numbers and lists for the walks -/
theorem pk_us {f : Nat → Int32} {k : Nat} {x : Int32} : upd f k x k = x := if_pos rfl
theorem pk_un {f : Nat → Int32} {k j : Nat} {x : Int32} (h : j ≠ k) : upd f k x j = f j := if_neg h
theorem pk_sub {a b : Nat} (h : b ≤ a) : nI a - nI b = nI (a - b) := by
  obtain ⟨c, rfl⟩ : ∃ c, a = c + b := ⟨a - b, by omega⟩
  rw [← nI_add, Int32.add_sub_cancel, Nat.add_sub_cancel]
theorem pk_m1 (n : Nat) : nI (n + 1) + (-1) = nI n := by
  rw [← nI_1, Int32.add_assoc, show (1 : Int32) + (-1) = 0 from rfl, Int32.add_zero]
theorem pk_mul (a b : Nat) : nI a * nI b = nI (a * b) := (Int32.ofNat_mul a b).symm
theorem pk_sub_toInt {a b : Nat} (ha : a < 2 ^ 30) (hb : b < 2 ^ 30) : (nI a - nI b).toInt = (a : Int) - b := by
  rw [Int32.toInt_sub, nI_toInt (by omega), nI_toInt (by omega)]
  exact Int.bmod_eq_of_le (by omega) (by omega)
theorem pk_ix (x : Int32) {n : Nat} (hn : n < 2 ^ 31) : x < 0 ∨ nI n ≤ x ∨ ∃ j : Nat, j < n ∧ x = nI j := by
  by_cases h : x < 0
  · exact Or.inl h
  · obtain ⟨j, hj, rfl⟩ := nI_of h
    by_cases h2 : j < n
    · exact Or.inr (Or.inr ⟨j, h2, rfl⟩)
    · exact Or.inr (Or.inl (nI_le (by omega) hj))
theorem pk_le {x y : Int32} {A B : Prop} (a b : Nat) (f : a ≤ b → A) (g : b < a → B) (hx : x = nI a := by rfl) (hy : y = nI b := by rfl) (ha : a < 2 ^ 31 := by omega) (hb : b < 2 ^ 31 := by omega) : (x ≤ y → A) ∧ (¬ x ≤ y → B) := by
  subst hx hy
  rw [nI_leI ha hb]
  exact ⟨f, fun z => g (by omega)⟩
theorem pk_lt {x y : Int32} {A B : Prop} (a b : Nat) (f : a < b → A) (g : b ≤ a → B) (hx : x = nI a := by rfl) (hy : y = nI b := by rfl) (ha : a < 2 ^ 31 := by omega) (hb : b < 2 ^ 31 := by omega) : (x < y → A) ∧ (¬ x < y → B) := by
  subst hx hy
  rw [nI_ltI ha hb]
  exact ⟨f, fun z => g (by omega)⟩
theorem pk_eq {x y : Int32} {A B : Prop} (a b : Nat) (f : a = b → A) (g : a ≠ b → B) (hx : x = nI a := by rfl) (hy : y = nI b := by rfl) (ha : a < 2 ^ 31 := by omega) (hb : b < 2 ^ 31 := by omega) : (x = y → A) ∧ (¬ x = y → B) := by
  subst hx hy
  rw [nI_eq ha hb]
  exact ⟨f, g⟩
theorem pk_in {x : Int32} (n N : Nat) (h : n < N) (hx : x = nI n := by rfl) (hN : N < 2 ^ 31 := by omega) : vp_in x N := by
  subst hx
  exact vp_in_nI h hN
theorem pk_cl {x : Int32} (n : Nat) (hx : x = nI n := by rfl) (h : n < 2 ^ 31 := by omega) : x.toNatClampNeg = n := by
  subst hx
  exact nI_clamp h
theorem fp_n1 : (1 : Int32) = nI 1 := by decide
theorem fp_m1 : (-1 : Int32) = nI 0 - 1 := by decide
/-- Y's greatest label of some vertices, whose groups are m -/
def fp_mo (m : Nat) : Int32 := nI m - 1
theorem fp_mo_0 : fp_mo 0 = -1 := by decide
theorem fp_mo_s (p : Nat) : fp_mo (p + 1) = nI p := nI_pred p
theorem fp_mo_1 (m : Nat) : fp_mo m + 1 = nI m := Int32.sub_add_cancel _ _
theorem fp_mo_i {m : Nat} (h : m < 2 ^ 30) : (fp_mo m).toInt = (m : Int) - 1 := by
  show (nI m - 1).toInt = _
  rw [fp_n1, pk_sub_toInt h (by decide)]
  rfl
theorem fp_mo_lt {m p : Nat} (hm : m < 2 ^ 30) (hp : p < 2 ^ 30) : fp_mo m < nI p ↔ m ≤ p := by
  rw [Int32.lt_iff_toInt_lt, fp_mo_i hm, nI_toInt (by omega)]
  omega
theorem fp_mo_le {m p : Nat} (hm : m < 2 ^ 30) (hp : p < 2 ^ 30) : nI p ≤ fp_mo m ↔ p < m := by
  rw [Int32.le_iff_toInt_le, fp_mo_i hm, nI_toInt (by omega)]
  omega
theorem fp_ne1 {a : Nat} (h : a < 2 ^ 31) : nI a ≠ -1 := by
  intro e
  have h1 := nI_pos (n := a) h
  rw [e] at h1
  exact h1 (by decide)
/-! groups by a scan -/
def fp_mx (g : Nat → Nat) : Nat → Nat
  | 0 => 0
  | v + 1 => max (fp_mx g v) (g v + 1)
theorem fp_mx_c {g h : Nat → Nat} : ∀ n, (∀ v, v < n → g v = h v) → fp_mx g n = fp_mx h n := by
  intro n
  induction n with
  | zero => intro _; rfl
  | succ n ih =>
    intro e
    show max (fp_mx g n) (g n + 1) = max (fp_mx h n) (h n + 1)
    rw [ih (fun v hv => e v (by omega)), e n (by omega)]
theorem fp_mx_ml : ∀ t : List Nat, fp_mx (fp_lk t) t.length = fp_ml t := by
  intro t
  induction t with
  | nil => rfl
  | cons a t ih =>
    show max (fp_mx (fp_lk (a :: t)) t.length) (fp_lk (a :: t) t.length + 1) = max (fp_ml t) (a + 1)
    rw [fp_lk_len, fp_mx_c t.length (fun v hv => fp_lk_lt hv), ih]
theorem fp_inc_c (a : Nat) (t : List Nat) : fp_inc (a :: t) = if a < fp_ml t then some ((a + 1) :: t) else (match fp_inc t with
    | none => none
    | some s => some (0 :: s)) := rfl
theorem fp_inc_Rg : ∀ t s, fp_Rg t → fp_inc t = some s → fp_Rg s ∧ s.length = t.length := by
  intro t
  induction t with
  | nil => intro s _ h; cases h
  | cons a t ih =>
    intro s hr h
    obtain ⟨h1, h2⟩ := hr
    rw [fp_inc_c] at h
    by_cases e : a < fp_ml t
    · rw [if_pos e] at h
      cases h
      exact ⟨⟨e, h2⟩, rfl⟩
    · rw [if_neg e] at h
      cases z : fp_inc t with
      | none => rw [z] at h; cases h
      | some w =>
        rw [z] at h
        cases h
        have ⟨a1, a2⟩ := ih w h2 z
        exact ⟨⟨Nat.zero_le _, a1⟩, by rw [List.length_cons, List.length_cons, a2]⟩
def fp_zp : Nat → List Nat → List Nat
  | 0, w => w
  | d + 1, w => fp_zp d (0 :: w)
theorem fp_zp_len : ∀ d w, (fp_zp d w).length = w.length + d := by
  intro d
  induction d with
  | zero => intro w; rfl
  | succ d ih => intro w; show (fp_zp d (0 :: w)).length = _; rw [ih, List.length_cons]; omega
theorem fp_zp_lt : ∀ d w v, v < w.length → fp_lk (fp_zp d w) v = fp_lk w v := by
  intro d
  induction d with
  | zero => intro w v _; rfl
  | succ d ih =>
    intro w v h
    show fp_lk (fp_zp d (0 :: w)) v = _
    rw [ih (0 :: w) v (Nat.lt_succ_of_lt h), fp_lk_lt h]
theorem fp_zp_ge : ∀ d w v, w.length ≤ v → v < w.length + d → fp_lk (fp_zp d w) v = 0 := by
  intro d
  induction d with
  | zero => intro w v h1 h2; exact absurd h2 (by omega)
  | succ d ih =>
    intro w v h1 h2
    show fp_lk (fp_zp d (0 :: w)) v = 0
    by_cases e : v = w.length
    · rw [fp_zp_lt d (0 :: w) v (by rw [List.length_cons]; omega), e, fp_lk_len]
    · exact ih (0 :: w) v (by rw [List.length_cons]; omega) (by rw [List.length_cons]; omega)
/-- an array that holds a grouping -/
def fp_Rp (a : Nat → Int32) (t : List Nat) : Prop := ∀ v, v < t.length → a v = nI (fp_lk t v)
theorem fp_Rp_tl {a : Nat → Int32} {x : Nat} {t : List Nat} (h : fp_Rp a (x :: t)) : fp_Rp a t := by
  intro v hv
  rw [h v (Nat.lt_succ_of_lt hv), fp_lk_lt hv]
theorem fp_Rp_hd {a : Nat → Int32} {x : Nat} {t : List Nat} (h : fp_Rp a (x :: t)) : a t.length = nI x := by
  rw [h t.length (Nat.lt_succ_self _), fp_lk_len]
theorem fp_Rp_zp {a : Nat → Int32} {d : Nat} {w : List Nat} (h : fp_Rp a w) (hz : ∀ v, w.length ≤ v → v < w.length + d → a v = 0) : fp_Rp a (fp_zp d w) := by
  intro v hv
  rw [fp_zp_len] at hv
  by_cases e : v < w.length
  · rw [fp_zp_lt d w v e]; exact h v e
  · rw [fp_zp_ge d w v (by omega) hv, hz v (by omega) hv]; decide
theorem fp_Rp_up {a : Nat → Int32} {x y : Nat} {t : List Nat} (h : fp_Rp a (x :: t)) : fp_Rp (upd a t.length (nI y)) (y :: t) := by
  intro v hv
  by_cases e : v = t.length
  · rw [e, pk_us, fp_lk_len]
  · have h2 : v < t.length := by
      have : v < t.length + 1 := hv
      omega
    rw [pk_un e, h v hv, fp_lk_lt h2, fp_lk_lt h2]
theorem fp_Rp_lt7 {t : List Nat} (hr : fp_Rg t) (hl : t.length ≤ 7) : fp_ml t ≤ 7 ∧ ∀ v, v < t.length → fp_lk t v < 7 := by
  have h1 := fp_ml_le t hr
  refine ⟨by omega, fun v hv => ?_⟩
  have := fp_lk_ml t v hv
  omega
