/-! the groupings: lists of labels, vertex n - 1 first -/
def fp_ml : List Nat → Nat
  | [] => 0
  | a :: t => max (fp_ml t) (a + 1)
def fp_inc : List Nat → Option (List Nat)
  | [] => none
  | a :: t => if a < fp_ml t then some ((a + 1) :: t) else (match fp_inc t with
    | none => none
    | some s => some (0 :: s))
def fp_zs : Nat → List Nat
  | 0 => []
  | n + 1 => 0 :: fp_zs n
def fp_sp : Nat → List Nat
  | 0 => []
  | n + 1 => n :: fp_sp n
def fp_seq : Nat → List Nat → List (List Nat)
  | 0, _ => []
  | f + 1, s => s :: (match fp_inc s with
    | none => []
    | some s' => fp_seq f s')
def fp_gen : Nat → List (List Nat)
  | 0 => [[]]
  | n + 1 => (fp_gen n).flatMap (fun t => (List.range (fp_ml t + 1)).map (fun a => a :: t))
def fp_lk : List Nat → Nat → Nat
  | [], _ => 0
  | a :: t, v => if v = t.length then a else fp_lk t v
def fp_Rg : List Nat → Prop
  | [] => True
  | a :: t => a ≤ fp_ml t ∧ fp_Rg t
theorem fp_sg0 : fp_seq 877 (fp_zs 0) = fp_gen 0 := by decide +kernel
theorem fp_sg1 : fp_seq 877 (fp_zs 1) = fp_gen 1 := by decide +kernel
theorem fp_sg2 : fp_seq 877 (fp_zs 2) = fp_gen 2 := by decide +kernel
theorem fp_sg3 : fp_seq 877 (fp_zs 3) = fp_gen 3 := by decide +kernel
theorem fp_sg4 : fp_seq 877 (fp_zs 4) = fp_gen 4 := by decide +kernel
theorem fp_sg5 : fp_seq 877 (fp_zs 5) = fp_gen 5 := by decide +kernel
theorem fp_sg6 : fp_seq 877 (fp_zs 6) = fp_gen 6 := by decide +kernel
theorem fp_sg7 : fp_seq 877 (fp_zs 7) = fp_gen 7 := by decide +kernel
theorem fp_sg : ∀ n, n < 8 → fp_seq 877 (fp_zs n) = fp_gen n
  | 0, _ => fp_sg0
  | 1, _ => fp_sg1
  | 2, _ => fp_sg2
  | 3, _ => fp_sg3
  | 4, _ => fp_sg4
  | 5, _ => fp_sg5
  | 6, _ => fp_sg6
  | 7, _ => fp_sg7
  | n + 8, h => absurd h (by omega)
theorem fp_mem_gen : ∀ t, fp_Rg t → t ∈ fp_gen t.length := by
  intro t
  induction t with
  | nil => intro _; exact List.mem_singleton.mpr rfl
  | cons a t ih =>
    intro h
    obtain ⟨h1, h2⟩ := h
    show a :: t ∈ (fp_gen t.length).flatMap _
    exact List.mem_flatMap.mpr ⟨t, ih h2, List.mem_map.mpr ⟨a, List.mem_range.mpr (Nat.lt_succ_of_le h1), rfl⟩⟩
theorem fp_of_gen : ∀ n t, t ∈ fp_gen n → t.length = n ∧ fp_Rg t := by
  intro n
  induction n with
  | zero => intro t h; cases List.mem_singleton.mp h; exact ⟨rfl, trivial⟩
  | succ n ih =>
    intro t h
    obtain ⟨s, hs, h2⟩ := List.mem_flatMap.mp h
    obtain ⟨a, ha, rfl⟩ := List.mem_map.mp h2
    have ⟨h3, h4⟩ := ih s hs
    exact ⟨by rw [List.length_cons, h3], Nat.le_of_lt_succ (List.mem_range.mp ha), h4⟩
theorem fp_ml_le : ∀ t, fp_Rg t → fp_ml t ≤ t.length := by
  intro t
  induction t with
  | nil => intro _; exact Nat.le_refl 0
  | cons a t ih =>
    intro h
    obtain ⟨h1, h2⟩ := h
    have h3 := ih h2
    show max (fp_ml t) (a + 1) ≤ t.length + 1
    omega
theorem fp_ml_pos : ∀ t : List Nat, 0 < t.length → 1 ≤ fp_ml t := by
  intro t h
  cases t with
  | nil => cases h
  | cons a t => show 1 ≤ max (fp_ml t) (a + 1); omega
theorem fp_lk_len {a : Nat} {t : List Nat} : fp_lk (a :: t) t.length = a := if_pos rfl
theorem fp_lk_lt {a v : Nat} {t : List Nat} (h : v < t.length) : fp_lk (a :: t) v = fp_lk t v := if_neg (Nat.ne_of_lt h)
theorem fp_lk_ml : ∀ (t : List Nat) (v : Nat), v < t.length → fp_lk t v < fp_ml t := by
  intro t
  induction t with
  | nil => intro v h; cases h
  | cons a t ih =>
    intro v h
    have h' : v < t.length + 1 := h
    by_cases e : v = t.length
    · subst e
      rw [fp_lk_len]
      show a < max (fp_ml t) (a + 1)
      omega
    · have h2 : v < t.length := by omega
      have h3 := ih v h2
      rw [fp_lk_lt h2]
      show _ < max (fp_ml t) (a + 1)
      omega
theorem fp_zs_len : ∀ n, (fp_zs n).length = n := by
  intro n
  induction n with
  | zero => rfl
  | succ n ih => show (fp_zs n).length + 1 = n + 1; rw [ih]
theorem fp_zs_lk : ∀ n v, fp_lk (fp_zs n) v = 0 := by
  intro n
  induction n with
  | zero => intro v; rfl
  | succ n ih =>
    intro v
    show (if v = (fp_zs n).length then 0 else fp_lk (fp_zs n) v) = 0
    rw [ih]
    split <;> rfl
theorem fp_zs_ml : ∀ n, fp_ml (fp_zs (n + 1)) = 1 := by
  intro n
  induction n with
  | zero => rfl
  | succ n ih => show max (fp_ml (fp_zs (n + 1))) (0 + 1) = 1; rw [ih]; rfl
theorem fp_zs_Rg : ∀ n, fp_Rg (fp_zs n) := by
  intro n
  induction n with
  | zero => trivial
  | succ n ih => exact ⟨Nat.zero_le _, ih⟩
theorem fp_sp_len : ∀ n, (fp_sp n).length = n := by
  intro n
  induction n with
  | zero => rfl
  | succ n ih => show (fp_sp n).length + 1 = n + 1; rw [ih]
theorem fp_sp_ml : ∀ n, fp_ml (fp_sp n) = n := by
  intro n
  induction n with
  | zero => rfl
  | succ n ih => show max (fp_ml (fp_sp n)) (n + 1) = n + 1; rw [ih]; omega
theorem fp_sp_Rg : ∀ n, fp_Rg (fp_sp n) := by
  intro n
  induction n with
  | zero => trivial
  | succ n ih => exact ⟨by rw [fp_sp_ml]; exact Nat.le_refl _, ih⟩
/-- all groupings of n vertices, in the order of both programs -/
def fp_L (n : Nat) : List (List Nat) := fp_seq 877 (fp_zs n)
theorem fp_L_mem {n : Nat} (hn : n < 8) {t : List Nat} (h : fp_Rg t) (hl : t.length = n) : t ∈ fp_L n := by
  subst hl
  show t ∈ fp_seq 877 (fp_zs t.length)
  rw [fp_sg _ hn]
  exact fp_mem_gen t h
theorem fp_L_of {n : Nat} (hn : n < 8) {t : List Nat} (h : t ∈ fp_L n) : t.length = n ∧ fp_Rg t := by
  have h2 : t ∈ fp_seq 877 (fp_zs n) := h
  rw [fp_sg _ hn] at h2
  exact fp_of_gen n t h2
/-! the cut edges -/
def fp_cu (g fr to : Nat → Nat) (left : Int32) : Nat → Nat
  | 0 => 0
  | e + 1 => fp_cu g fr to left e + (if nI e = left then 0 else if g (fr e) = g (to e) then 0 else 1)
theorem fp_cu_le (g fr to : Nat → Nat) (left : Int32) : ∀ c, fp_cu g fr to left c ≤ c := by
  intro c
  induction c with
  | zero => exact Nat.le_refl 0
  | succ e ih =>
    show fp_cu g fr to left e + (if nI e = left then 0 else if g (fr e) = g (to e) then 0 else 1) ≤ e + 1
    have : (if nI e = left then 0 else if g (fr e) = g (to e) then 0 else 1) ≤ 1 := by
      split
      · omega
      · split <;> omega
    omega
theorem fp_cu_0 (g fr to : Nat → Nat) (left : Int32) : ∀ c, (∀ e, e < c → g (fr e) = g (to e)) → fp_cu g fr to left c = 0 := by
  intro c
  induction c with
  | zero => intro _; rfl
  | succ e ih =>
    intro h
    show fp_cu g fr to left e + (if nI e = left then 0 else if g (fr e) = g (to e) then 0 else 1) = 0
    rw [ih (fun e' he => h e' (by omega)), if_pos (h e (by omega))]
    split <;> rfl
/-! X's least value -/
def fp_val (n k : Nat) (fr to : Nat → Nat) (left : Int32) (c : Nat) (t : List Nat) : Nat :=
  k * (n - fp_ml t) + fp_cu (fp_lk t) fr to left c
def fp_mf (w : List Nat → Nat) : List (List Nat) → Nat → Nat
  | [], r => r
  | t :: l, r => fp_mf w l (if w t < r then w t else r)
theorem fp_mf_le (w : List Nat → Nat) : ∀ (l : List (List Nat)) (r x : Nat), x ≤ fp_mf w l r ↔ x ≤ r ∧ ∀ t, t ∈ l → x ≤ w t := by
  intro l
  induction l with
  | nil => intro r x; exact ⟨fun h => ⟨h, fun t ht => nomatch ht⟩, fun h => h.1⟩
  | cons t l ih =>
    intro r x
    show x ≤ fp_mf w l (if w t < r then w t else r) ↔ _
    rw [ih]
    constructor
    · intro ⟨h1, h2⟩
      have h3 : x ≤ r ∧ x ≤ w t := by
        by_cases e : w t < r
        · rw [if_pos e] at h1; omega
        · rw [if_neg e] at h1; omega
      refine ⟨h3.1, fun s hs => ?_⟩
      cases hs with
      | head => exact h3.2
      | tail _ h => exact h2 s h
    · intro ⟨h1, h2⟩
      have h3 := h2 t (List.Mem.head _)
      refine ⟨?_, fun s hs => h2 s (List.Mem.tail _ hs)⟩
      split <;> omega
/-- HOLD(k) as X reckons it -/
def fp_MH (n k : Nat) (fr to : Nat → Nat) (left : Int32) (c : Nat) : Nat := fp_mf (fp_val n k fr to left c) (fp_L n) c
/-! Y's least cuts, a number of parts each -/
def fp_ls (w : List Nat → Nat) (m : Nat) : List (List Nat) → Nat → Nat
  | [], r => r
  | t :: l, r => fp_ls w m l (if fp_ml t = m then (if w t < r then w t else r) else r)
theorem fp_ls_le (w : List Nat → Nat) (m : Nat) : ∀ (l : List (List Nat)) (r x : Nat), x ≤ fp_ls w m l r ↔ x ≤ r ∧ ∀ t, t ∈ l → fp_ml t = m → x ≤ w t := by
  intro l
  induction l with
  | nil => intro r x; exact ⟨fun h => ⟨h, fun t ht => nomatch ht⟩, fun h => h.1⟩
  | cons t l ih =>
    intro r x
    show x ≤ fp_ls w m l (if fp_ml t = m then (if w t < r then w t else r) else r) ↔ _
    rw [ih]
    by_cases e : fp_ml t = m
    · rw [if_pos e]
      constructor
      · intro ⟨h1, h2⟩
        have h3 : x ≤ r ∧ x ≤ w t := by
          by_cases e : w t < r
          · rw [if_pos e] at h1; omega
          · rw [if_neg e] at h1; omega
        refine ⟨h3.1, fun s hs => ?_⟩
        cases hs with
        | head => exact fun _ => h3.2
        | tail _ h => exact h2 s h
      · intro ⟨h1, h2⟩
        have h3 := h2 t (List.Mem.head _) e
        refine ⟨?_, fun s hs => h2 s (List.Mem.tail _ hs)⟩
        split <;> omega
    · rw [if_neg e]
      constructor
      · intro ⟨h1, h2⟩
        refine ⟨h1, fun s hs => ?_⟩
        cases hs with
        | head => exact fun z => absurd z e
        | tail _ h => exact h2 s h
      · intro ⟨h1, h2⟩
        exact ⟨h1, fun s hs => h2 s (List.Mem.tail _ hs)⟩
def fp_cw (fr to : Nat → Nat) (left : Int32) (c : Nat) (t : List Nat) : Nat := fp_cu (fp_lk t) fr to left c
def fp_LS (n : Nat) (fr to : Nat → Nat) (left : Int32) (c m : Nat) : Nat := fp_ls (fp_cw fr to left c) m (fp_L n) 1000
def fp_bd (n k : Nat) (ls : Nat → Nat) : Nat → Nat
  | 0 => 1000
  | j + 1 => if ls (j + 1) + k * (n - (j + 1)) < fp_bd n k ls j then ls (j + 1) + k * (n - (j + 1)) else fp_bd n k ls j
theorem fp_bd_le (n k : Nat) (ls : Nat → Nat) : ∀ j x, x ≤ fp_bd n k ls j ↔ x ≤ 1000 ∧ ∀ m, 1 ≤ m → m ≤ j → x ≤ ls m + k * (n - m) := by
  intro j
  induction j with
  | zero => intro x; exact ⟨fun h => ⟨h, fun m h1 h2 => absurd h1 (by omega)⟩, fun h => h.1⟩
  | succ j ih =>
    intro x
    show x ≤ (if ls (j + 1) + k * (n - (j + 1)) < fp_bd n k ls j then ls (j + 1) + k * (n - (j + 1)) else fp_bd n k ls j) ↔ _
    constructor
    · intro h
      have h3 : x ≤ fp_bd n k ls j ∧ x ≤ ls (j + 1) + k * (n - (j + 1)) := by
        by_cases e : ls (j + 1) + k * (n - (j + 1)) < fp_bd n k ls j
        · rw [if_pos e] at h; omega
        · rw [if_neg e] at h; omega
      have h4 := (ih x).mp h3.1
      refine ⟨h4.1, fun m h1 h2 => ?_⟩
      by_cases e : m = j + 1
      · rw [e]; exact h3.2
      · exact h4.2 m h1 (by omega)
    · intro ⟨h1, h2⟩
      have h3 := (ih x).mpr ⟨h1, fun m a b => h2 m a (by omega)⟩
      have h4 := h2 (j + 1) (by omega) (Nat.le_refl _)
      split <;> omega
theorem fp_eq_of_le {a b : Nat} (h : ∀ x, x ≤ a ↔ x ≤ b) : a = b :=
  Nat.le_antisymm ((h a).mp (Nat.le_refl _)) ((h b).mpr (Nat.le_refl _))
theorem fp_MH_le {n k : Nat} {fr to : Nat → Nat} {left : Int32} {c x : Nat} : x ≤ fp_MH n k fr to left c ↔ x ≤ c ∧ ∀ t, t ∈ fp_L n → x ≤ k * (n - fp_ml t) + fp_cu (fp_lk t) fr to left c :=
  fp_mf_le _ _ _ _
theorem fp_LS_le {n : Nat} {fr to : Nat → Nat} {left : Int32} {c m x : Nat} : x ≤ fp_LS n fr to left c m ↔ x ≤ 1000 ∧ ∀ t, t ∈ fp_L n → fp_ml t = m → x ≤ fp_cu (fp_lk t) fr to left c :=
  fp_ls_le _ _ _ _ _
theorem fp_MH_bd {n k : Nat} (h2 : 2 ≤ n) (h7 : n ≤ 7) {fr to : Nat → Nat} {left : Int32} {c : Nat} (hc : c ≤ 17) : fp_MH n k fr to left c = fp_bd n k (fp_LS n fr to left c) n := by
  apply fp_eq_of_le
  intro x
  rw [fp_MH_le, fp_bd_le]
  constructor
  · intro ⟨h1, h3⟩
    refine ⟨by omega, fun m ha hb => ?_⟩
    have h4 : x - k * (n - m) ≤ fp_LS n fr to left c m := by
      rw [fp_LS_le]
      refine ⟨by omega, fun t ht e => ?_⟩
      have h5 := h3 t ht
      rw [e] at h5
      omega
    omega
  · intro ⟨h1, h3⟩
    have h5 : ∀ t, t ∈ fp_L n → x ≤ k * (n - fp_ml t) + fp_cu (fp_lk t) fr to left c := by
      intro t ht
      have ⟨e1, e2⟩ := fp_L_of (by omega) ht
      have e3 := fp_ml_le t e2
      have e4 := fp_ml_pos t (by omega)
      have e5 := h3 (fp_ml t) e4 (by omega)
      have e6 : fp_LS n fr to left c (fp_ml t) ≤ fp_cu (fp_lk t) fr to left c := (fp_LS_le.mp (Nat.le_refl _)).2 t ht rfl
      omega
    refine ⟨?_, h5⟩
    have h6 := h5 (fp_sp n) (fp_L_mem (by omega) (fp_sp_Rg n) (fp_sp_len n))
    have h7 := fp_cu_le (fp_lk (fp_sp n)) fr to left c
    rw [fp_sp_ml, Nat.sub_self, Nat.mul_zero] at h6
    omega
theorem fp_MH_c {n k : Nat} {fr to : Nat → Nat} {left : Int32} {c : Nat} : fp_MH n k fr to left c ≤ c := (fp_MH_le.mp (Nat.le_refl _)).1
theorem fp_MH_1 {n k : Nat} (h2 : 2 ≤ n) (h7 : n ≤ 7) {fr to : Nat → Nat} {left : Int32} {c : Nat} : fp_MH n k fr to left c ≤ k * (n - 1) := by
  obtain ⟨j, rfl⟩ : ∃ j, n = j + 1 := ⟨n - 1, by omega⟩
  have h := (fp_MH_le.mp (Nat.le_refl (fp_MH (j + 1) k fr to left c))).2 (fp_zs (j + 1)) (fp_L_mem (by omega) (fp_zs_Rg _) (fp_zs_len _))
  rw [fp_zs_ml, fp_cu_0 _ _ _ _ c (fun e _ => by rw [fp_zs_lk, fp_zs_lk])] at h
  exact h
/-- k spanning trees: the equation that both programs ask -/
theorem fp_tr_mono {n k j : Nat} (h2 : 2 ≤ n) (h7 : n ≤ 7) {fr to : Nat → Nat} {left : Int32} {c : Nat} (h : fp_MH n k fr to left c = k * (n - 1)) (hj : j ≤ k) : fp_MH n j fr to left c = j * (n - 1) := by
  refine Nat.le_antisymm (fp_MH_1 h2 h7) ?_
  have ⟨a, b⟩ := fp_MH_le.mp (Nat.le_of_eq h.symm)
  rw [fp_MH_le]
  have m1 : j * (n - 1) ≤ k * (n - 1) := Nat.mul_le_mul_right _ hj
  refine ⟨by omega, fun t ht => ?_⟩
  have ⟨e1, e2⟩ := fp_L_of (by omega) ht
  have e3 := fp_ml_le t e2
  have e4 := fp_ml_pos t (by omega)
  have e5 := b t ht
  have e6 : n - 1 = (n - fp_ml t) + (fp_ml t - 1) := by omega
  rw [e6, Nat.mul_add] at e5 ⊢
  have m2 : j * (fp_ml t - 1) ≤ k * (fp_ml t - 1) := Nat.mul_le_mul_right _ hj
  omega
theorem fp_tr_c {n k : Nat} (h2 : 2 ≤ n) {fr to : Nat → Nat} {left : Int32} {c : Nat} (h : fp_MH n k fr to left c = k * (n - 1)) : k ≤ c := by
  have h1 := fp_MH_c (n := n) (k := k) (fr := fr) (to := to) (left := left) (c := c)
  have h3 : k * 1 ≤ k * (n - 1) := Nat.mul_le_mul_left _ (by omega)
  omega
