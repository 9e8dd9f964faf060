section
/-! the groupings: lists of labels, vertex n - 1 first -/
def fp_ml : List Nat → Nat
  | [] => 0
  | a :: t => max (fp_ml t) (a + 1)
def fp_inc : List Nat → Option (List Nat)
  | [] => none
  | a :: t => if a < fp_ml t then some ((a + 1) :: t) else (match fp_inc t with
    | none => none
    | some s => some (0 :: s))
def fp_zs : Nat → List Nat
  | 0 => []
  | n + 1 => 0 :: fp_zs n
def fp_sp : Nat → List Nat
  | 0 => []
  | n + 1 => n :: fp_sp n
def fp_seq : Nat → List Nat → List (List Nat)
  | 0, _ => []
  | f + 1, s => s :: (match fp_inc s with
    | none => []
    | some s' => fp_seq f s')
def fp_gen : Nat → List (List Nat)
  | 0 => [[]]
  | n + 1 => (fp_gen n).flatMap (fun t => (List.range (fp_ml t + 1)).map (fun a => a :: t))
def fp_lk : List Nat → Nat → Nat
  | [], _ => 0
  | a :: t, v => if v = t.length then a else fp_lk t v
def fp_Rg : List Nat → Prop
  | [] => True
  | a :: t => a ≤ fp_ml t ∧ fp_Rg t
theorem fp_sg0 : fp_seq 877 (fp_zs 0) = fp_gen 0 := by decide +kernel
theorem fp_sg1 : fp_seq 877 (fp_zs 1) = fp_gen 1 := by decide +kernel
theorem fp_sg2 : fp_seq 877 (fp_zs 2) = fp_gen 2 := by decide +kernel
theorem fp_sg3 : fp_seq 877 (fp_zs 3) = fp_gen 3 := by decide +kernel
theorem fp_sg4 : fp_seq 877 (fp_zs 4) = fp_gen 4 := by decide +kernel
theorem fp_sg5 : fp_seq 877 (fp_zs 5) = fp_gen 5 := by decide +kernel
theorem fp_sg6 : fp_seq 877 (fp_zs 6) = fp_gen 6 := by decide +kernel
theorem fp_sg7 : fp_seq 877 (fp_zs 7) = fp_gen 7 := by decide +kernel
theorem fp_sg : ∀ n, n < 8 → fp_seq 877 (fp_zs n) = fp_gen n
  | 0, _ => fp_sg0
  | 1, _ => fp_sg1
  | 2, _ => fp_sg2
  | 3, _ => fp_sg3
  | 4, _ => fp_sg4
  | 5, _ => fp_sg5
  | 6, _ => fp_sg6
  | 7, _ => fp_sg7
  | n + 8, h => absurd h (by omega)
theorem fp_mem_gen : ∀ t, fp_Rg t → t ∈ fp_gen t.length := by
  intro t
  induction t with
  | nil => intro _; exact List.mem_singleton.mpr rfl
  | cons a t ih =>
    intro h
    obtain ⟨h1, h2⟩ := h
    show a :: t ∈ (fp_gen t.length).flatMap _
    exact List.mem_flatMap.mpr ⟨t, ih h2, List.mem_map.mpr ⟨a, List.mem_range.mpr (Nat.lt_succ_of_le h1), rfl⟩⟩
theorem fp_of_gen : ∀ n t, t ∈ fp_gen n → t.length = n ∧ fp_Rg t := by
  intro n
  induction n with
  | zero => intro t h; cases List.mem_singleton.mp h; exact ⟨rfl, trivial⟩
  | succ n ih =>
    intro t h
    obtain ⟨s, hs, h2⟩ := List.mem_flatMap.mp h
    obtain ⟨a, ha, rfl⟩ := List.mem_map.mp h2
    have ⟨h3, h4⟩ := ih s hs
    exact ⟨by rw [List.length_cons, h3], Nat.le_of_lt_succ (List.mem_range.mp ha), h4⟩
theorem fp_ml_le : ∀ t, fp_Rg t → fp_ml t ≤ t.length := by
  intro t
  induction t with
  | nil => intro _; exact Nat.le_refl 0
  | cons a t ih =>
    intro h
    obtain ⟨h1, h2⟩ := h
    have h3 := ih h2
    show max (fp_ml t) (a + 1) ≤ t.length + 1
    omega
theorem fp_ml_pos : ∀ t : List Nat, 0 < t.length → 1 ≤ fp_ml t := by
  intro t h
  cases t with
  | nil => cases h
  | cons a t => show 1 ≤ max (fp_ml t) (a + 1); omega
theorem fp_lk_len {a : Nat} {t : List Nat} : fp_lk (a :: t) t.length = a := if_pos rfl
theorem fp_lk_lt {a v : Nat} {t : List Nat} (h : v < t.length) : fp_lk (a :: t) v = fp_lk t v := if_neg (Nat.ne_of_lt h)
theorem fp_lk_ml : ∀ (t : List Nat) (v : Nat), v < t.length → fp_lk t v < fp_ml t := by
  intro t
  induction t with
  | nil => intro v h; cases h
  | cons a t ih =>
    intro v h
    have h' : v < t.length + 1 := h
    by_cases e : v = t.length
    · subst e
      rw [fp_lk_len]
      show a < max (fp_ml t) (a + 1)
      omega
    · have h2 : v < t.length := by omega
      have h3 := ih v h2
      rw [fp_lk_lt h2]
      show _ < max (fp_ml t) (a + 1)
      omega
theorem fp_zs_len : ∀ n, (fp_zs n).length = n := by
  intro n
  induction n with
  | zero => rfl
  | succ n ih => show (fp_zs n).length + 1 = n + 1; rw [ih]
theorem fp_zs_lk : ∀ n v, fp_lk (fp_zs n) v = 0 := by
  intro n
  induction n with
  | zero => intro v; rfl
  | succ n ih =>
    intro v
    show (if v = (fp_zs n).length then 0 else fp_lk (fp_zs n) v) = 0
    rw [ih]
    split <;> rfl
theorem fp_zs_ml : ∀ n, fp_ml (fp_zs (n + 1)) = 1 := by
  intro n
  induction n with
  | zero => rfl
  | succ n ih => show max (fp_ml (fp_zs (n + 1))) (0 + 1) = 1; rw [ih]; rfl
theorem fp_zs_Rg : ∀ n, fp_Rg (fp_zs n) := by
  intro n
  induction n with
  | zero => trivial
  | succ n ih => exact ⟨Nat.zero_le _, ih⟩
theorem fp_sp_len : ∀ n, (fp_sp n).length = n := by
  intro n
  induction n with
  | zero => rfl
  | succ n ih => show (fp_sp n).length + 1 = n + 1; rw [ih]
theorem fp_sp_ml : ∀ n, fp_ml (fp_sp n) = n := by
  intro n
  induction n with
  | zero => rfl
  | succ n ih => show max (fp_ml (fp_sp n)) (n + 1) = n + 1; rw [ih]; omega
theorem fp_sp_Rg : ∀ n, fp_Rg (fp_sp n) := by
  intro n
  induction n with
  | zero => trivial
  | succ n ih => exact ⟨by rw [fp_sp_ml]; exact Nat.le_refl _, ih⟩
/-- all groupings of n vertices, in the order of both programs -/
def fp_L (n : Nat) : List (List Nat) := fp_seq 877 (fp_zs n)
theorem fp_L_mem {n : Nat} (hn : n < 8) {t : List Nat} (h : fp_Rg t) (hl : t.length = n) : t ∈ fp_L n := by
  subst hl
  show t ∈ fp_seq 877 (fp_zs t.length)
  rw [fp_sg _ hn]
  exact fp_mem_gen t h
theorem fp_L_of {n : Nat} (hn : n < 8) {t : List Nat} (h : t ∈ fp_L n) : t.length = n ∧ fp_Rg t := by
  have h2 : t ∈ fp_seq 877 (fp_zs n) := h
  rw [fp_sg _ hn] at h2
  exact fp_of_gen n t h2
/-! the cut edges -/
def fp_cu (g fr to : Nat → Nat) (left : Int32) : Nat → Nat
  | 0 => 0
  | e + 1 => fp_cu g fr to left e + (if nI e = left then 0 else if g (fr e) = g (to e) then 0 else 1)
theorem fp_cu_le (g fr to : Nat → Nat) (left : Int32) : ∀ c, fp_cu g fr to left c ≤ c := by
  intro c
  induction c with
  | zero => exact Nat.le_refl 0
  | succ e ih =>
    show fp_cu g fr to left e + (if nI e = left then 0 else if g (fr e) = g (to e) then 0 else 1) ≤ e + 1
    have : (if nI e = left then 0 else if g (fr e) = g (to e) then 0 else 1) ≤ 1 := by
      split
      · omega
      · split <;> omega
    omega
theorem fp_cu_0 (g fr to : Nat → Nat) (left : Int32) : ∀ c, (∀ e, e < c → g (fr e) = g (to e)) → fp_cu g fr to left c = 0 := by
  intro c
  induction c with
  | zero => intro _; rfl
  | succ e ih =>
    intro h
    show fp_cu g fr to left e + (if nI e = left then 0 else if g (fr e) = g (to e) then 0 else 1) = 0
    rw [ih (fun e' he => h e' (by omega)), if_pos (h e (by omega))]
    split <;> rfl
/-! X's least value -/
def fp_val (n k : Nat) (fr to : Nat → Nat) (left : Int32) (c : Nat) (t : List Nat) : Nat :=
  k * (n - fp_ml t) + fp_cu (fp_lk t) fr to left c
def fp_mf (w : List Nat → Nat) : List (List Nat) → Nat → Nat
  | [], r => r
  | t :: l, r => fp_mf w l (if w t < r then w t else r)
theorem fp_mf_le (w : List Nat → Nat) : ∀ (l : List (List Nat)) (r x : Nat), x ≤ fp_mf w l r ↔ x ≤ r ∧ ∀ t, t ∈ l → x ≤ w t := by
  intro l
  induction l with
  | nil => intro r x; exact ⟨fun h => ⟨h, fun t ht => nomatch ht⟩, fun h => h.1⟩
  | cons t l ih =>
    intro r x
    show x ≤ fp_mf w l (if w t < r then w t else r) ↔ _
    rw [ih]
    constructor
    · intro ⟨h1, h2⟩
      have h3 : x ≤ r ∧ x ≤ w t := by
        by_cases e : w t < r
        · rw [if_pos e] at h1; omega
        · rw [if_neg e] at h1; omega
      refine ⟨h3.1, fun s hs => ?_⟩
      cases hs with
      | head => exact h3.2
      | tail _ h => exact h2 s h
    · intro ⟨h1, h2⟩
      have h3 := h2 t (List.Mem.head _)
      refine ⟨?_, fun s hs => h2 s (List.Mem.tail _ hs)⟩
      split <;> omega
/-- HOLD(k) as X reckons it -/
def fp_MH (n k : Nat) (fr to : Nat → Nat) (left : Int32) (c : Nat) : Nat := fp_mf (fp_val n k fr to left c) (fp_L n) c
/-! Y's least cuts, a number of parts each -/
def fp_ls (w : List Nat → Nat) (m : Nat) : List (List Nat) → Nat → Nat
  | [], r => r
  | t :: l, r => fp_ls w m l (if fp_ml t = m then (if w t < r then w t else r) else r)
theorem fp_ls_le (w : List Nat → Nat) (m : Nat) : ∀ (l : List (List Nat)) (r x : Nat), x ≤ fp_ls w m l r ↔ x ≤ r ∧ ∀ t, t ∈ l → fp_ml t = m → x ≤ w t := by
  intro l
  induction l with
  | nil => intro r x; exact ⟨fun h => ⟨h, fun t ht => nomatch ht⟩, fun h => h.1⟩
  | cons t l ih =>
    intro r x
    show x ≤ fp_ls w m l (if fp_ml t = m then (if w t < r then w t else r) else r) ↔ _
    rw [ih]
    by_cases e : fp_ml t = m
    · rw [if_pos e]
      constructor
      · intro ⟨h1, h2⟩
        have h3 : x ≤ r ∧ x ≤ w t := by
          by_cases e : w t < r
          · rw [if_pos e] at h1; omega
          · rw [if_neg e] at h1; omega
        refine ⟨h3.1, fun s hs => ?_⟩
        cases hs with
        | head => exact fun _ => h3.2
        | tail _ h => exact h2 s h
      · intro ⟨h1, h2⟩
        have h3 := h2 t (List.Mem.head _) e
        refine ⟨?_, fun s hs => h2 s (List.Mem.tail _ hs)⟩
        split <;> omega
    · rw [if_neg e]
      constructor
      · intro ⟨h1, h2⟩
        refine ⟨h1, fun s hs => ?_⟩
        cases hs with
        | head => exact fun z => absurd z e
        | tail _ h => exact h2 s h
      · intro ⟨h1, h2⟩
        exact ⟨h1, fun s hs => h2 s (List.Mem.tail _ hs)⟩
def fp_cw (fr to : Nat → Nat) (left : Int32) (c : Nat) (t : List Nat) : Nat := fp_cu (fp_lk t) fr to left c
def fp_LS (n : Nat) (fr to : Nat → Nat) (left : Int32) (c m : Nat) : Nat := fp_ls (fp_cw fr to left c) m (fp_L n) 1000
def fp_bd (n k : Nat) (ls : Nat → Nat) : Nat → Nat
  | 0 => 1000
  | j + 1 => if ls (j + 1) + k * (n - (j + 1)) < fp_bd n k ls j then ls (j + 1) + k * (n - (j + 1)) else fp_bd n k ls j
theorem fp_bd_le (n k : Nat) (ls : Nat → Nat) : ∀ j x, x ≤ fp_bd n k ls j ↔ x ≤ 1000 ∧ ∀ m, 1 ≤ m → m ≤ j → x ≤ ls m + k * (n - m) := by
  intro j
  induction j with
  | zero => intro x; exact ⟨fun h => ⟨h, fun m h1 h2 => absurd h1 (by omega)⟩, fun h => h.1⟩
  | succ j ih =>
    intro x
    show x ≤ (if ls (j + 1) + k * (n - (j + 1)) < fp_bd n k ls j then ls (j + 1) + k * (n - (j + 1)) else fp_bd n k ls j) ↔ _
    constructor
    · intro h
      have h3 : x ≤ fp_bd n k ls j ∧ x ≤ ls (j + 1) + k * (n - (j + 1)) := by
        by_cases e : ls (j + 1) + k * (n - (j + 1)) < fp_bd n k ls j
        · rw [if_pos e] at h; omega
        · rw [if_neg e] at h; omega
      have h4 := (ih x).mp h3.1
      refine ⟨h4.1, fun m h1 h2 => ?_⟩
      by_cases e : m = j + 1
      · rw [e]; exact h3.2
      · exact h4.2 m h1 (by omega)
    · intro ⟨h1, h2⟩
      have h3 := (ih x).mpr ⟨h1, fun m a b => h2 m a (by omega)⟩
      have h4 := h2 (j + 1) (by omega) (Nat.le_refl _)
      split <;> omega
theorem fp_eq_of_le {a b : Nat} (h : ∀ x, x ≤ a ↔ x ≤ b) : a = b :=
  Nat.le_antisymm ((h a).mp (Nat.le_refl _)) ((h b).mpr (Nat.le_refl _))
theorem fp_MH_le {n k : Nat} {fr to : Nat → Nat} {left : Int32} {c x : Nat} : x ≤ fp_MH n k fr to left c ↔ x ≤ c ∧ ∀ t, t ∈ fp_L n → x ≤ k * (n - fp_ml t) + fp_cu (fp_lk t) fr to left c :=
  fp_mf_le _ _ _ _
theorem fp_LS_le {n : Nat} {fr to : Nat → Nat} {left : Int32} {c m x : Nat} : x ≤ fp_LS n fr to left c m ↔ x ≤ 1000 ∧ ∀ t, t ∈ fp_L n → fp_ml t = m → x ≤ fp_cu (fp_lk t) fr to left c :=
  fp_ls_le _ _ _ _ _
theorem fp_MH_bd {n k : Nat} (h2 : 2 ≤ n) (h7 : n ≤ 7) {fr to : Nat → Nat} {left : Int32} {c : Nat} (hc : c ≤ 17) : fp_MH n k fr to left c = fp_bd n k (fp_LS n fr to left c) n := by
  apply fp_eq_of_le
  intro x
  rw [fp_MH_le, fp_bd_le]
  constructor
  · intro ⟨h1, h3⟩
    refine ⟨by omega, fun m ha hb => ?_⟩
    have h4 : x - k * (n - m) ≤ fp_LS n fr to left c m := by
      rw [fp_LS_le]
      refine ⟨by omega, fun t ht e => ?_⟩
      have h5 := h3 t ht
      rw [e] at h5
      omega
    omega
  · intro ⟨h1, h3⟩
    have h5 : ∀ t, t ∈ fp_L n → x ≤ k * (n - fp_ml t) + fp_cu (fp_lk t) fr to left c := by
      intro t ht
      have ⟨e1, e2⟩ := fp_L_of (by omega) ht
      have e3 := fp_ml_le t e2
      have e4 := fp_ml_pos t (by omega)
      have e5 := h3 (fp_ml t) e4 (by omega)
      have e6 : fp_LS n fr to left c (fp_ml t) ≤ fp_cu (fp_lk t) fr to left c := (fp_LS_le.mp (Nat.le_refl _)).2 t ht rfl
      omega
    refine ⟨?_, h5⟩
    have h6 := h5 (fp_sp n) (fp_L_mem (by omega) (fp_sp_Rg n) (fp_sp_len n))
    have h7 := fp_cu_le (fp_lk (fp_sp n)) fr to left c
    rw [fp_sp_ml, Nat.sub_self, Nat.mul_zero] at h6
    omega
theorem fp_MH_c {n k : Nat} {fr to : Nat → Nat} {left : Int32} {c : Nat} : fp_MH n k fr to left c ≤ c := (fp_MH_le.mp (Nat.le_refl _)).1
theorem fp_MH_1 {n k : Nat} (h2 : 2 ≤ n) (h7 : n ≤ 7) {fr to : Nat → Nat} {left : Int32} {c : Nat} : fp_MH n k fr to left c ≤ k * (n - 1) := by
  obtain ⟨j, rfl⟩ : ∃ j, n = j + 1 := ⟨n - 1, by omega⟩
  have h := (fp_MH_le.mp (Nat.le_refl (fp_MH (j + 1) k fr to left c))).2 (fp_zs (j + 1)) (fp_L_mem (by omega) (fp_zs_Rg _) (fp_zs_len _))
  rw [fp_zs_ml, fp_cu_0 _ _ _ _ c (fun e _ => by rw [fp_zs_lk, fp_zs_lk])] at h
  exact h
/-- k spanning trees: the equation that both programs ask -/
theorem fp_tr_mono {n k j : Nat} (h2 : 2 ≤ n) (h7 : n ≤ 7) {fr to : Nat → Nat} {left : Int32} {c : Nat} (h : fp_MH n k fr to left c = k * (n - 1)) (hj : j ≤ k) : fp_MH n j fr to left c = j * (n - 1) := by
  refine Nat.le_antisymm (fp_MH_1 h2 h7) ?_
  have ⟨a, b⟩ := fp_MH_le.mp (Nat.le_of_eq h.symm)
  rw [fp_MH_le]
  have m1 : j * (n - 1) ≤ k * (n - 1) := Nat.mul_le_mul_right _ hj
  refine ⟨by omega, fun t ht => ?_⟩
  have ⟨e1, e2⟩ := fp_L_of (by omega) ht
  have e3 := fp_ml_le t e2
  have e4 := fp_ml_pos t (by omega)
  have e5 := b t ht
  have e6 : n - 1 = (n - fp_ml t) + (fp_ml t - 1) := by omega
  rw [e6, Nat.mul_add] at e5 ⊢
  have m2 : j * (fp_ml t - 1) ≤ k * (fp_ml t - 1) := Nat.mul_le_mul_right _ hj
  omega
theorem fp_tr_c {n k : Nat} (h2 : 2 ≤ n) {fr to : Nat → Nat} {left : Int32} {c : Nat} (h : fp_MH n k fr to left c = k * (n - 1)) : k ≤ c := by
  have h1 := fp_MH_c (n := n) (k := k) (fr := fr) (to := to) (left := left) (c := c)
  have h3 : k * 1 ≤ k * (n - 1) := Nat.mul_le_mul_left _ (by omega)
  omega
end
section
/-! counting -/
def fp_cn (P : Nat → Bool) : Nat → Nat
  | 0 => 0
  | n + 1 => fp_cn P n + (if P n = true then 1 else 0)
theorem fp_cn_s (P : Nat → Bool) (n : Nat) : fp_cn P (n + 1) = fp_cn P n + (if P n = true then 1 else 0) := rfl
theorem fp_cn_t {P : Nat → Bool} {n : Nat} (h : P n = true) : fp_cn P (n + 1) = fp_cn P n + 1 := by rw [fp_cn_s, if_pos h]
theorem fp_cn_f {P : Nat → Bool} {n : Nat} (h : ¬ P n = true) : fp_cn P (n + 1) = fp_cn P n := by rw [fp_cn_s, if_neg h]; rfl
theorem fp_cn_le (P : Nat → Bool) : ∀ n, fp_cn P n ≤ n := by
  intro n
  induction n with
  | zero => exact Nat.le_refl 0
  | succ n ih =>
    by_cases h : P n = true
    · rw [fp_cn_t h]; omega
    · rw [fp_cn_f h]; omega
theorem fp_cn_mono (P : Nat → Bool) : ∀ d a, fp_cn P a ≤ fp_cn P (a + d) := by
  intro d
  induction d with
  | zero => intro a; exact Nat.le_refl _
  | succ d ih =>
    intro a
    have h1 := ih a
    show _ ≤ fp_cn P ((a + d) + 1)
    by_cases h : P (a + d) = true
    · rw [fp_cn_t h]; omega
    · rw [fp_cn_f h]; omega
theorem fp_cn0 {P Q : Nat → Bool} : ∀ n, (∀ v, v < n → P v = true → Q v = true) → fp_cn P n ≤ fp_cn Q n := by
  intro n
  induction n with
  | zero => intro _; exact Nat.le_refl 0
  | succ n ih =>
    intro h
    have h1 := ih (fun v hv => h v (by omega))
    by_cases e : P n = true
    · rw [fp_cn_t e, fp_cn_t (h n (by omega) e)]; omega
    · rw [fp_cn_f e]
      by_cases e2 : Q n = true
      · rw [fp_cn_t e2]; omega
      · rw [fp_cn_f e2]; omega
theorem fp_cn1 {P Q : Nat → Bool} (B : Nat) : ∀ n, (∀ v, v < n → v ≠ B → P v = true → Q v = true) → fp_cn P n ≤ fp_cn Q n + 1 := by
  intro n
  induction n with
  | zero => intro _; exact Nat.zero_le _
  | succ n ih =>
    intro h
    by_cases eB : n = B
    · have h0 : fp_cn P n ≤ fp_cn Q n := fp_cn0 n (fun v hv => h v (by omega) (by omega))
      have h1 := fp_cn_mono Q 1 n
      by_cases e : P n = true
      · rw [fp_cn_t e]; omega
      · rw [fp_cn_f e]; omega
    · have h1 := ih (fun v hv => h v (by omega))
      by_cases e : P n = true
      · rw [fp_cn_t e, fp_cn_t (h n (by omega) eB e)]; omega
      · rw [fp_cn_f e]
        have h2 := fp_cn_mono Q 1 n
        omega
theorem fp_cn2 {P Q : Nat → Bool} (w : Nat) (hp : ¬ P w = true) (hq : Q w = true) : ∀ n, w < n → (∀ v, v < n → P v = true → Q v = true) → fp_cn P n + 1 ≤ fp_cn Q n := by
  intro n
  induction n with
  | zero => intro h; exact absurd h (by omega)
  | succ n ih =>
    intro hw h
    by_cases e : w = n
    · subst e
      rw [fp_cn_f hp, fp_cn_t hq]
      have := fp_cn0 w (fun v hv => h v (by omega))
      omega
    · have h1 := ih (by omega) (fun v hv => h v (by omega))
      by_cases e : P n = true
      · rw [fp_cn_t e, fp_cn_t (h n (by omega) e)]; omega
      · rw [fp_cn_f e]
        have h2 := fp_cn_mono Q 1 n
        omega
theorem fp_cnF : ∀ n, fp_cn (fun _ => false) n = 0 := by
  intro n
  induction n with
  | zero => rfl
  | succ n ih => rw [fp_cn_f (by decide), ih]
theorem fp_cnT {P : Nat → Bool} : ∀ n, (∀ v, v < n → P v = true) → fp_cn P n = n := by
  intro n
  induction n with
  | zero => intro _; rfl
  | succ n ih => intro h; rw [fp_cn_t (h n (by omega)), ih (fun v hv => h v (by omega))]
/-! the labels hit by the vertices below n that R takes -/
def fp_ht (f : Nat → Nat) (R : Nat → Bool) : Nat → Nat → Bool
  | 0, _ => false
  | n + 1, l => fp_ht f R n l || (R n && f n == l)
theorem fp_ht_iff (f : Nat → Nat) (R : Nat → Bool) (l : Nat) : ∀ n, fp_ht f R n l = true ↔ ∃ v, v < n ∧ R v = true ∧ f v = l := by
  intro n
  induction n with
  | zero => exact ⟨fun h => (nomatch h), fun ⟨v, h, _⟩ => absurd h (by omega)⟩
  | succ n ih =>
    show (fp_ht f R n l || (R n && f n == l)) = true ↔ _
    rw [Bool.or_eq_true, Bool.and_eq_true, beq_iff_eq, ih]
    constructor
    · intro h
      cases h with
      | inl h => obtain ⟨v, h1, h2⟩ := h; exact ⟨v, by omega, h2⟩
      | inr h => exact ⟨n, by omega, h⟩
    · intro ⟨v, h1, h2⟩
      by_cases e : v = n
      · subst e; exact Or.inr h2
      · exact Or.inl ⟨v, by omega, h2⟩
/-- no more labels than vertices that R takes -/
theorem fp_ht_cn (f : Nat → Nat) (R : Nat → Bool) (m : Nat) : ∀ n, fp_cn (fp_ht f R n) m ≤ fp_cn R n := by
  intro n
  induction n with
  | zero =>
    have : fp_cn (fp_ht f R 0) m = 0 := fp_cnF m
    omega
  | succ n ih =>
    by_cases e : R n = true
    · have h : fp_cn (fp_ht f R (n + 1)) m ≤ fp_cn (fp_ht f R n) m + 1 := by
        refine fp_cn1 (f n) m (fun l _ hl h => ?_)
        obtain ⟨v, h1, h2, h3⟩ := (fp_ht_iff f R l (n + 1)).mp h
        refine (fp_ht_iff f R l n).mpr ⟨v, ?_, h2, h3⟩
        have : v ≠ n := fun z => hl (by rw [← h3, z])
        omega
      rw [fp_cn_t e]
      omega
    · have h : fp_cn (fp_ht f R (n + 1)) m ≤ fp_cn (fp_ht f R n) m := by
        refine fp_cn0 m (fun l _ h => ?_)
        obtain ⟨v, h1, h2, h3⟩ := (fp_ht_iff f R l (n + 1)).mp h
        refine (fp_ht_iff f R l n).mpr ⟨v, ?_, h2, h3⟩
        have : v ≠ n := fun z => e (by rw [← z]; exact h2)
        omega
      rw [fp_cn_f e]
      omega
/-! labels merged along the edges -/
def fp_fs (fr to f : Nat → Nat) : Nat → Nat → Nat
  | 0 => f
  | e + 1 => fun v => if fp_fs fr to f e v = fp_fs fr to f e (to e) then fp_fs fr to f e (fr e) else fp_fs fr to f e v
theorem fp_fs_s (fr to f : Nat → Nat) (e v : Nat) : fp_fs fr to f (e + 1) v = if fp_fs fr to f e v = fp_fs fr to f e (to e) then fp_fs fr to f e (fr e) else fp_fs fr to f e v := rfl
theorem fp_fs_eq {fr to f : Nat → Nat} {x y e : Nat} (h : fp_fs fr to f e x = fp_fs fr to f e y) : fp_fs fr to f (e + 1) x = fp_fs fr to f (e + 1) y := by
  rw [fp_fs_s, fp_fs_s, h]
theorem fp_fs_0 {fr to f : Nat → Nat} {x y : Nat} (h : f x = f y) : ∀ c, fp_fs fr to f c x = fp_fs fr to f c y := by
  intro c
  induction c with
  | zero => exact h
  | succ c ih => exact fp_fs_eq ih
theorem fp_fs_e {fr to f : Nat → Nat} : ∀ c e, e < c → fp_fs fr to f c (fr e) = fp_fs fr to f c (to e) := by
  intro c
  induction c with
  | zero => intro e h; exact absurd h (by omega)
  | succ c ih =>
    intro e h
    by_cases z : e = c
    · subst z
      rw [fp_fs_s, fp_fs_s, if_pos rfl]
      split <;> rfl
    · exact fp_fs_eq (ih e (by omega))
theorem fp_fs_cn (fr to f : Nat → Nat) (n m : Nat) (left : Int32) : ∀ c, (∀ e, e < c → nI e ≠ left) → (∀ e, e < c → fr e < n ∧ to e < n) → fp_cn (fp_ht f (fun _ => true) n) m ≤ fp_cn (fp_ht (fp_fs fr to f c) (fun _ => true) n) m + fp_cu f fr to left c := by
  intro c
  induction c with
  | zero => intro _ _; exact Nat.le_refl _
  | succ c ih =>
    intro hl he
    have h1 := ih (fun e h => hl e (by omega)) (fun e h => he e (by omega))
    show _ ≤ _ + (fp_cu f fr to left c + (if nI c = left then 0 else if f (fr c) = f (to c) then 0 else 1))
    rw [if_neg (hl c (by omega))]
    by_cases z : f (fr c) = f (to c)
    · rw [if_pos z]
      have h2 : fp_cn (fp_ht (fp_fs fr to f c) (fun _ => true) n) m ≤ fp_cn (fp_ht (fp_fs fr to f (c + 1)) (fun _ => true) n) m := by
        refine fp_cn0 m (fun l _ h => ?_)
        obtain ⟨v, a1, a2, a3⟩ := (fp_ht_iff _ _ l n).mp h
        refine (fp_ht_iff _ _ l n).mpr ⟨v, a1, a2, ?_⟩
        rw [fp_fs_s, fp_fs_0 z c]
        by_cases y : fp_fs fr to f c v = fp_fs fr to f c (to c)
        · rw [if_pos y, ← y]; exact a3
        · rw [if_neg y]; exact a3
      omega
    · rw [if_neg z]
      have h2 : fp_cn (fp_ht (fp_fs fr to f c) (fun _ => true) n) m ≤ fp_cn (fp_ht (fp_fs fr to f (c + 1)) (fun _ => true) n) m + 1 := by
        refine fp_cn1 (fp_fs fr to f c (to c)) m (fun l _ hl2 h => ?_)
        obtain ⟨v, a1, a2, a3⟩ := (fp_ht_iff _ _ l n).mp h
        refine (fp_ht_iff _ _ l n).mpr ⟨v, a1, a2, ?_⟩
        rw [fp_fs_s, if_neg (fun y => hl2 (by rw [← a3, y]))]
        exact a3
      omega
theorem fp_ml_hit : ∀ t, fp_Rg t → ∀ l, l < fp_ml t → ∃ v, v < t.length ∧ fp_lk t v = l := by
  intro t
  induction t with
  | nil => intro _ l h; exact absurd h (Nat.not_lt_zero _)
  | cons a t ih =>
    intro hr l h
    obtain ⟨h1, h2⟩ := hr
    have h' : l < max (fp_ml t) (a + 1) := h
    by_cases e : l < fp_ml t
    · obtain ⟨v, b1, b2⟩ := ih h2 l e
      exact ⟨v, Nat.lt_succ_of_lt b1, by rw [fp_lk_lt b1]; exact b2⟩
    · exact ⟨t.length, Nat.lt_succ_self _, by rw [fp_lk_len]; omega⟩
/-- the roots of a labelling -/
def fp_rt (p : Nat → Nat) (v : Nat) : Bool := p v == v
theorem fp_rt_t {p : Nat → Nat} {v : Nat} : fp_rt p v = true ↔ p v = v := beq_iff_eq
/-- what Y's labels keep to at the end -/
def fp_Lab (p fr to : Nat → Nat) (c : Nat) : Prop :=
  (∀ v, p v ≤ v) ∧ (∀ e, e < c → p (fr e) = p (to e)) ∧ (∀ f : Nat → Nat, (∀ e, e < c → f (fr e) = f (to e)) → ∀ v, f (p v) = f v)
theorem fp_grp {p fr to : Nat → Nat} {c n : Nat} (hp : fp_Lab p fr to c) (he : ∀ e, e < c → fr e < n ∧ to e < n) {left : Int32} (hl : ∀ e, e < c → nI e ≠ left) {t : List Nat} (ht : fp_Rg t) (hn : t.length = n) : fp_ml t ≤ fp_cn (fp_rt p) n + fp_cu (fp_lk t) fr to left c := by
  obtain ⟨p1, p2, p3⟩ := hp
  have h1 : fp_cn (fp_ht (fp_lk t) (fun _ => true) n) (fp_ml t) = fp_ml t := by
    refine fp_cnT _ (fun l hl => (fp_ht_iff _ _ l n).mpr ?_)
    obtain ⟨v, b1, b2⟩ := fp_ml_hit t ht l hl
    exact ⟨v, by omega, rfl, b2⟩
  have h2 := fp_fs_cn fr to (fp_lk t) n (fp_ml t) left c hl he
  have h3 : fp_cn (fp_ht (fp_fs fr to (fp_lk t) c) (fun _ => true) n) (fp_ml t) ≤ fp_cn (fp_ht (fp_fs fr to (fp_lk t) c) (fp_rt p) n) (fp_ml t) := by
    refine fp_cn0 _ (fun l _ h => ?_)
    obtain ⟨v, a1, a2, a3⟩ := (fp_ht_iff _ _ l n).mp h
    have q := p1 v
    exact (fp_ht_iff _ _ l n).mpr ⟨p v, by omega, fp_rt_t.mpr (p3 p p2 v), by rw [p3 _ (fp_fs_e c) v]; exact a3⟩
  have h4 := fp_ht_cn (fp_fs fr to (fp_lk t) c) (fp_rt p) (fp_ml t) n
  omega
/-! the grouping of a labelling -/
def fp_rl (p : Nat → Nat) : Nat → List Nat
  | 0 => []
  | v + 1 => fp_cn (fp_rt p) (p v) :: fp_rl p v
theorem fp_rl_len (p : Nat → Nat) : ∀ n, (fp_rl p n).length = n := by
  intro n
  induction n with
  | zero => rfl
  | succ n ih => show (fp_rl p n).length + 1 = n + 1; rw [ih]
theorem fp_rl_lk (p : Nat → Nat) : ∀ n v, v < n → fp_lk (fp_rl p n) v = fp_cn (fp_rt p) (p v) := by
  intro n
  induction n with
  | zero => intro v h; exact absurd h (by omega)
  | succ n ih =>
    intro v h
    show (if v = (fp_rl p n).length then fp_cn (fp_rt p) (p n) else fp_lk (fp_rl p n) v) = _
    rw [fp_rl_len]
    by_cases e : v = n
    · rw [if_pos e, e]
    · rw [if_neg e, ih v (by omega)]
theorem fp_rl_ml {p : Nat → Nat} (h1 : ∀ v, p v ≤ v) (h2 : ∀ v, p (p v) = p v) : ∀ n, fp_ml (fp_rl p n) = fp_cn (fp_rt p) n := by
  intro n
  induction n with
  | zero => rfl
  | succ n ih =>
    show max (fp_ml (fp_rl p n)) (fp_cn (fp_rt p) (p n) + 1) = _
    rw [ih]
    by_cases e : p n = n
    · rw [fp_cn_t (fp_rt_t.mpr e), e]
      omega
    · rw [fp_cn_f (fun z => e (fp_rt_t.mp z))]
      have a : fp_cn (fp_rt p) (p n + 1) = fp_cn (fp_rt p) (p n) + 1 := fp_cn_t (fp_rt_t.mpr (h2 n))
      have b := fp_cn_mono (fp_rt p) (n - (p n + 1)) (p n + 1)
      have q := h1 n
      rw [show p n + 1 + (n - (p n + 1)) = n from by omega] at b
      omega
theorem fp_rl_Rg {p : Nat → Nat} (h1 : ∀ v, p v ≤ v) (h2 : ∀ v, p (p v) = p v) : ∀ n, fp_Rg (fp_rl p n) := by
  intro n
  induction n with
  | zero => trivial
  | succ n ih =>
    refine ⟨?_, ih⟩
    rw [fp_rl_ml h1 h2]
    have b := fp_cn_mono (fp_rt p) (n - p n) (p n)
    have q := h1 n
    rw [show p n + (n - p n) = n from by omega] at b
    exact b
/-- one forest holds all but the roots -/
theorem fp_parts {p fr to : Nat → Nat} {c n : Nat} (h2 : 2 ≤ n) (h7 : n ≤ 7) (hp : fp_Lab p fr to c) (he : ∀ e, e < c → fr e < n ∧ to e < n) {left : Int32} (hl : ∀ e, e < c → nI e ≠ left) : fp_MH n 1 fr to left c = n - fp_cn (fp_rt p) n := by
  have hb : ∀ t, t ∈ fp_L n → fp_ml t ≤ fp_cn (fp_rt p) n + fp_cu (fp_lk t) fr to left c := by
    intro t ht
    have ⟨e1, e2⟩ := fp_L_of (by omega) ht
    exact fp_grp hp he hl e2 e1
  obtain ⟨p1, p2, p3⟩ := hp
  have p4 : ∀ v, p (p v) = p v := p3 p p2
  apply Nat.le_antisymm
  · have h := (fp_MH_le.mp (Nat.le_refl (fp_MH n 1 fr to left c))).2 (fp_rl p n) (fp_L_mem (by omega) (fp_rl_Rg p1 p4 n) (fp_rl_len p n))
    rw [fp_rl_ml p1 p4, fp_cu_0 _ _ _ _ c (fun e h => by rw [fp_rl_lk p n _ (he e h).1, fp_rl_lk p n _ (he e h).2, p2 e h])] at h
    omega
  · rw [fp_MH_le]
    constructor
    · have h := hb (fp_sp n) (fp_L_mem (by omega) (fp_sp_Rg n) (fp_sp_len n))
      have h3 := fp_cu_le (fp_lk (fp_sp n)) fr to left c
      rw [fp_sp_ml] at h
      omega
    · intro t ht
      have h := hb t ht
      omega
/-! Y's rounds over the labels -/
def fp_mn (a b : Nat) : Nat := if a < b then a else b
theorem fp_mn_le (a b : Nat) : fp_mn a b ≤ a ∧ fp_mn a b ≤ b ∧ (fp_mn a b = a ∨ fp_mn a b = b) := by
  unfold fp_mn
  split <;> omega
def fp_st (fr to : Nat → Nat) (e : Nat) (q : Nat → Nat) : Nat → Nat :=
  fun v => if v = to e then fp_mn (q (fr e)) (q (to e)) else if v = fr e then fp_mn (q (fr e)) (q (to e)) else q v
def fp_pr (fr to : Nat → Nat) : Nat → (Nat → Nat) → (Nat → Nat)
  | 0, q => q
  | e + 1, q => fp_st fr to e (fp_pr fr to e q)
def fp_rr (fr to : Nat → Nat) (c : Nat) : Nat → (Nat → Nat)
  | 0 => fun v => v
  | r + 1 => fp_pr fr to c (fp_rr fr to c r)
theorem fp_st_c {fr to : Nat → Nat} {e : Nat} {q : Nat → Nat} (v : Nat) : (v = to e ∧ fp_st fr to e q v = fp_mn (q (fr e)) (q (to e))) ∨ (v = fr e ∧ fp_st fr to e q v = fp_mn (q (fr e)) (q (to e))) ∨ (fp_st fr to e q v = q v) := by
  unfold fp_st
  by_cases h : v = to e
  · exact Or.inl ⟨h, if_pos h⟩
  · by_cases h2 : v = fr e
    · exact Or.inr (Or.inl ⟨h2, by rw [if_neg h, if_pos h2]⟩)
    · exact Or.inr (Or.inr (by rw [if_neg h, if_neg h2]))
theorem fp_st_le {fr to : Nat → Nat} {e : Nat} {q : Nat → Nat} (v : Nat) : fp_st fr to e q v ≤ q v := by
  have h := fp_mn_le (q (fr e)) (q (to e))
  rcases fp_st_c (fr := fr) (to := to) (e := e) (q := q) v with ⟨rfl, h2⟩ | ⟨rfl, h2⟩ | h2 <;> omega
theorem fp_st_f {fr to : Nat → Nat} {e : Nat} {q f : Nat → Nat} (hf : f (fr e) = f (to e)) (hq : ∀ v, f (q v) = f v) (v : Nat) : f (fp_st fr to e q v) = f v := by
  have h := (fp_mn_le (q (fr e)) (q (to e))).2.2
  have h3 : f (fp_mn (q (fr e)) (q (to e))) = f (fr e) := by
    cases h with
    | inl h => rw [h, hq]
    | inr h => rw [h, hq, hf]
  rcases fp_st_c (fr := fr) (to := to) (e := e) (q := q) v with ⟨rfl, h2⟩ | ⟨rfl, h2⟩ | h2
  · rw [h2, h3, hf]
  · rw [h2, h3]
  · rw [h2, hq]
theorem fp_pr_le {fr to : Nat → Nat} {q : Nat → Nat} : ∀ c v, fp_pr fr to c q v ≤ q v := by
  intro c
  induction c with
  | zero => intro v; exact Nat.le_refl _
  | succ c ih => intro v; exact Nat.le_trans (fp_st_le v) (ih v)
theorem fp_pr_f {fr to : Nat → Nat} {q f : Nat → Nat} (hq : ∀ v, f (q v) = f v) : ∀ c, (∀ e, e < c → f (fr e) = f (to e)) → ∀ v, f (fp_pr fr to c q v) = f v := by
  intro c
  induction c with
  | zero => intro _ v; exact hq v
  | succ c ih => intro h v; exact fp_st_f (h c (by omega)) (ih (fun e he => h e (by omega))) v
theorem fp_rr_le {fr to : Nat → Nat} {c : Nat} : ∀ r v, fp_rr fr to c r v ≤ v := by
  intro r
  induction r with
  | zero => intro v; exact Nat.le_refl _
  | succ r ih => intro v; exact Nat.le_trans (fp_pr_le c v) (ih v)
theorem fp_rr_f {fr to : Nat → Nat} {c : Nat} {f : Nat → Nat} (h : ∀ e, e < c → f (fr e) = f (to e)) : ∀ r v, f (fp_rr fr to c r v) = f v := by
  intro r
  induction r with
  | zero => intro v; rfl
  | succ r ih => exact fp_pr_f ih c h
/-- the vertices labelled l or less are closed under the edges -/
def fp_Cl (fr to : Nat → Nat) (c l : Nat) (q : Nat → Nat) : Prop := ∀ e, e < c → (q (fr e) ≤ l ↔ q (to e) ≤ l)
theorem fp_Cl_pr {fr to : Nat → Nat} {c l : Nat} {q : Nat → Nat} (h : fp_Cl fr to c l q) : ∀ d, d ≤ c → ∀ v, (fp_pr fr to d q v ≤ l ↔ q v ≤ l) := by
  intro d
  induction d with
  | zero => intro _ v; exact Iff.rfl
  | succ d ih =>
    intro hd v
    have ih := ih (by omega)
    have hd' := h d (by omega)
    have e1 := ih (fr d)
    have e2 := ih (to d)
    have h3 := fp_mn_le (fp_pr fr to d q (fr d)) (fp_pr fr to d q (to d))
    show fp_st fr to d (fp_pr fr to d q) v ≤ l ↔ q v ≤ l
    rcases fp_st_c (fr := fr) (to := to) (e := d) (q := fp_pr fr to d q) v with ⟨rfl, h2⟩ | ⟨rfl, h2⟩ | h2
    · rw [h2]
      rcases h3.2.2 with z | z <;> rw [z]
      · rw [e1, hd']
      · rw [e2]
    · rw [h2]
      rcases h3.2.2 with z | z <;> rw [z]
      · rw [e1]
      · rw [e2, hd']
    · rw [h2]; exact ih v
theorem fp_pr_mono {fr to : Nat → Nat} {q : Nat → Nat} (a v : Nat) : ∀ d, fp_pr fr to (a + d) q v ≤ fp_pr fr to a q v := by
  intro d
  induction d with
  | zero => exact Nat.le_refl _
  | succ d ih => exact Nat.le_trans (fp_st_le v) ih
theorem fp_pr_edge {fr to : Nat → Nat} {q : Nat → Nat} {c e : Nat} (h : e < c) : fp_pr fr to c q (fr e) ≤ q (to e) ∧ fp_pr fr to c q (to e) ≤ q (fr e) := by
  have m1 := fp_pr_mono (fr := fr) (to := to) (q := q) (e + 1) (fr e) (c - (e + 1))
  have m2 := fp_pr_mono (fr := fr) (to := to) (q := q) (e + 1) (to e) (c - (e + 1))
  rw [show e + 1 + (c - (e + 1)) = c from by omega] at m1 m2
  have h3 := fp_mn_le (fp_pr fr to e q (fr e)) (fp_pr fr to e q (to e))
  have a1 := fp_pr_le (fr := fr) (to := to) (q := q) e (fr e)
  have a2 := fp_pr_le (fr := fr) (to := to) (q := q) e (to e)
  have s2 : fp_pr fr to (e + 1) q (to e) = fp_mn (fp_pr fr to e q (fr e)) (fp_pr fr to e q (to e)) := if_pos rfl
  have s1 : fp_pr fr to (e + 1) q (fr e) = fp_mn (fp_pr fr to e q (fr e)) (fp_pr fr to e q (to e)) := by
    show (if fr e = to e then _ else if fr e = fr e then _ else _) = _
    rw [if_pos (rfl : fr e = fr e)]
    split <;> rfl
  constructor <;> omega
theorem fp_rr_grow {fr to : Nat → Nat} {c n l : Nat} (hn : 1 ≤ n) (he : ∀ e, e < c → fr e < n ∧ to e < n) : ∀ r, fp_Cl fr to c l (fp_rr fr to c r) ∨ r + 1 ≤ fp_cn (fun v => decide (fp_rr fr to c r v ≤ l)) n := by
  intro r
  induction r with
  | zero =>
    refine Or.inr ?_
    have h := fp_cn_mono (fun v => decide (fp_rr fr to c 0 v ≤ l)) (n - 1) 1
    rw [show 1 + (n - 1) = n from by omega] at h
    have h1 : fp_cn (fun v => decide (fp_rr fr to c 0 v ≤ l)) 1 = 1 := fp_cn_t (n := 0) (decide_eq_true (Nat.zero_le l))
    show 0 + 1 ≤ fp_cn (fun v => decide (fp_rr fr to c 0 v ≤ l)) n
    omega
  | succ r ih =>
    by_cases hC : fp_Cl fr to c l (fp_rr fr to c r)
    · refine Or.inl (fun e h => ?_)
      have h1 := fp_Cl_pr hC c (Nat.le_refl c)
      show fp_pr fr to c (fp_rr fr to c r) (fr e) ≤ l ↔ fp_pr fr to c (fp_rr fr to c r) (to e) ≤ l
      rw [h1, h1]
      exact hC e h
    · have ih := ih.resolve_left hC
      refine Or.inr ?_
      have ⟨e, h1, h2⟩ : ∃ e, e < c ∧ ¬ (fp_rr fr to c r (fr e) ≤ l ↔ fp_rr fr to c r (to e) ≤ l) := by
        apply Classical.byContradiction
        intro z
        exact hC (fun e h => Classical.byContradiction (fun y => z ⟨e, h, y⟩))
      have h3 := fp_pr_edge (fr := fr) (to := to) (q := fp_rr fr to c r) h1
      have h4 := he e h1
      have hs : ∀ v, v < n → decide (fp_rr fr to c r v ≤ l) = true → decide (fp_rr fr to c (r + 1) v ≤ l) = true := by
        intro v _ h
        have h5 := of_decide_eq_true h
        exact decide_eq_true (Nat.le_trans (fp_pr_le c v) h5)
      by_cases y : fp_rr fr to c r (fr e) ≤ l
      · have y2 : ¬ fp_rr fr to c r (to e) ≤ l := fun z => h2 ⟨fun _ => z, fun _ => y⟩
        have h6 := fp_cn2 (P := fun v => decide (fp_rr fr to c r v ≤ l)) (Q := fun v => decide (fp_rr fr to c (r + 1) v ≤ l)) (to e) (fun z => y2 (of_decide_eq_true z)) (decide_eq_true (Nat.le_trans h3.2 y)) n h4.2 hs
        omega
      · have y2 : fp_rr fr to c r (to e) ≤ l := Classical.byContradiction (fun z => h2 ⟨fun a => absurd a y, fun a => absurd a z⟩)
        have h6 := fp_cn2 (P := fun v => decide (fp_rr fr to c r v ≤ l)) (Q := fun v => decide (fp_rr fr to c (r + 1) v ≤ l)) (fr e) (fun z => y (of_decide_eq_true z)) (decide_eq_true (Nat.le_trans h3.1 y2)) n h4.1 hs
        omega
theorem fp_rr_7 {fr to : Nat → Nat} {c n : Nat} (hn : 1 ≤ n) (h7 : n ≤ 7) (he : ∀ e, e < c → fr e < n ∧ to e < n) : fp_Lab (fp_rr fr to c 7) fr to c := by
  have hC : ∀ l, fp_Cl fr to c l (fp_rr fr to c 7) := by
    intro l
    cases fp_rr_grow (l := l) hn he 7 with
    | inl h => exact h
    | inr h =>
      have := fp_cn_le (fun v => decide (fp_rr fr to c 7 v ≤ l)) n
      omega
  refine ⟨fp_rr_le 7, fun e h => ?_, fun f hf => fp_rr_f hf 7⟩
  have a := (hC (fp_rr fr to c 7 (fr e)) e h).mp (Nat.le_refl _)
  have b := (hC (fp_rr fr to c 7 (to e)) e h).mpr (Nat.le_refl _)
  omega
end
section
/-! rows pasted from kit/rows (pk_), then numbers and lists for the walks -/
theorem pk_us {f : Nat → Int32} {k : Nat} {x : Int32} : upd f k x k = x := if_pos rfl
theorem pk_un {f : Nat → Int32} {k j : Nat} {x : Int32} (h : j ≠ k) : upd f k x j = f j := if_neg h
theorem pk_sub {a b : Nat} (h : b ≤ a) : nI a - nI b = nI (a - b) := by
  obtain ⟨c, rfl⟩ : ∃ c, a = c + b := ⟨a - b, by omega⟩
  rw [← nI_add, Int32.add_sub_cancel, Nat.add_sub_cancel]
theorem pk_m1 (n : Nat) : nI (n + 1) + (-1) = nI n := by
  rw [← nI_1, Int32.add_assoc, show (1 : Int32) + (-1) = 0 from rfl, Int32.add_zero]
theorem pk_mul (a b : Nat) : nI a * nI b = nI (a * b) := (Int32.ofNat_mul a b).symm
theorem pk_sub_toInt {a b : Nat} (ha : a < 2 ^ 30) (hb : b < 2 ^ 30) : (nI a - nI b).toInt = (a : Int) - b := by
  rw [Int32.toInt_sub, nI_toInt (by omega), nI_toInt (by omega)]
  exact Int.bmod_eq_of_le (by omega) (by omega)
theorem pk_ix (x : Int32) {n : Nat} (hn : n < 2 ^ 31) : x < 0 ∨ nI n ≤ x ∨ ∃ j : Nat, j < n ∧ x = nI j := by
  by_cases h : x < 0
  · exact Or.inl h
  · obtain ⟨j, hj, rfl⟩ := nI_of h
    by_cases h2 : j < n
    · exact Or.inr (Or.inr ⟨j, h2, rfl⟩)
    · exact Or.inr (Or.inl (nI_le (by omega) hj))
theorem pk_le {x y : Int32} {A B : Prop} (a b : Nat) (f : a ≤ b → A) (g : b < a → B) (hx : x = nI a := by rfl) (hy : y = nI b := by rfl) (ha : a < 2 ^ 31 := by omega) (hb : b < 2 ^ 31 := by omega) : (x ≤ y → A) ∧ (¬ x ≤ y → B) := by
  subst hx hy
  rw [nI_leI ha hb]
  exact ⟨f, fun z => g (by omega)⟩
theorem pk_lt {x y : Int32} {A B : Prop} (a b : Nat) (f : a < b → A) (g : b ≤ a → B) (hx : x = nI a := by rfl) (hy : y = nI b := by rfl) (ha : a < 2 ^ 31 := by omega) (hb : b < 2 ^ 31 := by omega) : (x < y → A) ∧ (¬ x < y → B) := by
  subst hx hy
  rw [nI_ltI ha hb]
  exact ⟨f, fun z => g (by omega)⟩
theorem pk_eq {x y : Int32} {A B : Prop} (a b : Nat) (f : a = b → A) (g : a ≠ b → B) (hx : x = nI a := by rfl) (hy : y = nI b := by rfl) (ha : a < 2 ^ 31 := by omega) (hb : b < 2 ^ 31 := by omega) : (x = y → A) ∧ (¬ x = y → B) := by
  subst hx hy
  rw [nI_eq ha hb]
  exact ⟨f, g⟩
theorem pk_in {x : Int32} (n N : Nat) (h : n < N) (hx : x = nI n := by rfl) (hN : N < 2 ^ 31 := by omega) : vp_in x N := by
  subst hx
  exact vp_in_nI h hN
theorem pk_cl {x : Int32} (n : Nat) (hx : x = nI n := by rfl) (h : n < 2 ^ 31 := by omega) : x.toNatClampNeg = n := by
  subst hx
  exact nI_clamp h
theorem fp_n1 : (1 : Int32) = nI 1 := by decide
theorem fp_m1 : (-1 : Int32) = nI 0 - 1 := by decide
/-- Y's greatest label of some vertices, whose groups are m -/
def fp_mo (m : Nat) : Int32 := nI m - 1
theorem fp_mo_0 : fp_mo 0 = -1 := by decide
theorem fp_mo_s (p : Nat) : fp_mo (p + 1) = nI p := nI_pred p
theorem fp_mo_1 (m : Nat) : fp_mo m + 1 = nI m := Int32.sub_add_cancel _ _
theorem fp_mo_i {m : Nat} (h : m < 2 ^ 30) : (fp_mo m).toInt = (m : Int) - 1 := by
  show (nI m - 1).toInt = _
  rw [fp_n1, pk_sub_toInt h (by decide)]
  rfl
theorem fp_mo_lt {m p : Nat} (hm : m < 2 ^ 30) (hp : p < 2 ^ 30) : fp_mo m < nI p ↔ m ≤ p := by
  rw [Int32.lt_iff_toInt_lt, fp_mo_i hm, nI_toInt (by omega)]
  omega
theorem fp_mo_le {m p : Nat} (hm : m < 2 ^ 30) (hp : p < 2 ^ 30) : nI p ≤ fp_mo m ↔ p < m := by
  rw [Int32.le_iff_toInt_le, fp_mo_i hm, nI_toInt (by omega)]
  omega
theorem fp_ne1 {a : Nat} (h : a < 2 ^ 31) : nI a ≠ -1 := by
  intro e
  have h1 := nI_pos (n := a) h
  rw [e] at h1
  exact h1 (by decide)
/-! groups by a scan -/
def fp_mx (g : Nat → Nat) : Nat → Nat
  | 0 => 0
  | v + 1 => max (fp_mx g v) (g v + 1)
theorem fp_mx_c {g h : Nat → Nat} : ∀ n, (∀ v, v < n → g v = h v) → fp_mx g n = fp_mx h n := by
  intro n
  induction n with
  | zero => intro _; rfl
  | succ n ih =>
    intro e
    show max (fp_mx g n) (g n + 1) = max (fp_mx h n) (h n + 1)
    rw [ih (fun v hv => e v (by omega)), e n (by omega)]
theorem fp_mx_ml : ∀ t : List Nat, fp_mx (fp_lk t) t.length = fp_ml t := by
  intro t
  induction t with
  | nil => rfl
  | cons a t ih =>
    show max (fp_mx (fp_lk (a :: t)) t.length) (fp_lk (a :: t) t.length + 1) = max (fp_ml t) (a + 1)
    rw [fp_lk_len, fp_mx_c t.length (fun v hv => fp_lk_lt hv), ih]
theorem fp_inc_c (a : Nat) (t : List Nat) : fp_inc (a :: t) = if a < fp_ml t then some ((a + 1) :: t) else (match fp_inc t with
    | none => none
    | some s => some (0 :: s)) := rfl
theorem fp_inc_Rg : ∀ t s, fp_Rg t → fp_inc t = some s → fp_Rg s ∧ s.length = t.length := by
  intro t
  induction t with
  | nil => intro s _ h; cases h
  | cons a t ih =>
    intro s hr h
    obtain ⟨h1, h2⟩ := hr
    rw [fp_inc_c] at h
    by_cases e : a < fp_ml t
    · rw [if_pos e] at h
      cases h
      exact ⟨⟨e, h2⟩, rfl⟩
    · rw [if_neg e] at h
      cases z : fp_inc t with
      | none => rw [z] at h; cases h
      | some w =>
        rw [z] at h
        cases h
        have ⟨a1, a2⟩ := ih w h2 z
        exact ⟨⟨Nat.zero_le _, a1⟩, by rw [List.length_cons, List.length_cons, a2]⟩
def fp_zp : Nat → List Nat → List Nat
  | 0, w => w
  | d + 1, w => fp_zp d (0 :: w)
theorem fp_zp_len : ∀ d w, (fp_zp d w).length = w.length + d := by
  intro d
  induction d with
  | zero => intro w; rfl
  | succ d ih => intro w; show (fp_zp d (0 :: w)).length = _; rw [ih, List.length_cons]; omega
theorem fp_zp_lt : ∀ d w v, v < w.length → fp_lk (fp_zp d w) v = fp_lk w v := by
  intro d
  induction d with
  | zero => intro w v _; rfl
  | succ d ih =>
    intro w v h
    show fp_lk (fp_zp d (0 :: w)) v = _
    rw [ih (0 :: w) v (Nat.lt_succ_of_lt h), fp_lk_lt h]
theorem fp_zp_ge : ∀ d w v, w.length ≤ v → v < w.length + d → fp_lk (fp_zp d w) v = 0 := by
  intro d
  induction d with
  | zero => intro w v h1 h2; exact absurd h2 (by omega)
  | succ d ih =>
    intro w v h1 h2
    show fp_lk (fp_zp d (0 :: w)) v = 0
    by_cases e : v = w.length
    · rw [fp_zp_lt d (0 :: w) v (by rw [List.length_cons]; omega), e, fp_lk_len]
    · exact ih (0 :: w) v (by rw [List.length_cons]; omega) (by rw [List.length_cons]; omega)
/-- an array that holds a grouping -/
def fp_Rp (a : Nat → Int32) (t : List Nat) : Prop := ∀ v, v < t.length → a v = nI (fp_lk t v)
theorem fp_Rp_tl {a : Nat → Int32} {x : Nat} {t : List Nat} (h : fp_Rp a (x :: t)) : fp_Rp a t := by
  intro v hv
  rw [h v (Nat.lt_succ_of_lt hv), fp_lk_lt hv]
theorem fp_Rp_hd {a : Nat → Int32} {x : Nat} {t : List Nat} (h : fp_Rp a (x :: t)) : a t.length = nI x := by
  rw [h t.length (Nat.lt_succ_self _), fp_lk_len]
theorem fp_Rp_zp {a : Nat → Int32} {d : Nat} {w : List Nat} (h : fp_Rp a w) (hz : ∀ v, w.length ≤ v → v < w.length + d → a v = 0) : fp_Rp a (fp_zp d w) := by
  intro v hv
  rw [fp_zp_len] at hv
  by_cases e : v < w.length
  · rw [fp_zp_lt d w v e]; exact h v e
  · rw [fp_zp_ge d w v (by omega) hv, hz v (by omega) hv]; decide
theorem fp_Rp_up {a : Nat → Int32} {x y : Nat} {t : List Nat} (h : fp_Rp a (x :: t)) : fp_Rp (upd a t.length (nI y)) (y :: t) := by
  intro v hv
  by_cases e : v = t.length
  · rw [e, pk_us, fp_lk_len]
  · have h2 : v < t.length := by
      have : v < t.length + 1 := hv
      omega
    rw [pk_un e, h v hv, fp_lk_lt h2, fp_lk_lt h2]
theorem fp_Rp_lt7 {t : List Nat} (hr : fp_Rg t) (hl : t.length ≤ 7) : fp_ml t ≤ 7 ∧ ∀ v, v < t.length → fp_lk t v < 7 := by
  have h1 := fp_ml_le t hr
  refine ⟨by omega, fun v hv => ?_⟩
  have := fp_lk_ml t v hv
  omega
end
section
/-! edges as naturals -/
def fp_cl (o : Nat → Int32) (e : Nat) : Nat := (o e).toNatClampNeg
def fp_Ok (n c : Nat) (o p : Nat → Int32) : Prop := ∀ e, e < c → (o e = nI (fp_cl o e) ∧ p e = nI (fp_cl p e)) ∧ fp_cl o e < n ∧ fp_cl p e < n ∧ fp_cl o e ≠ fp_cl p e
theorem fp_if {c d A B : Prop} (e : c ↔ d) (f : d → A) (g : ¬ d → B) : (c → A) ∧ (¬ c → B) := ⟨fun h => f (e.mp h), fun h => g (fun z => h (e.mpr z))⟩
theorem fp_mx_le {g : Nat → Nat} : ∀ m, (∀ v, v < m → g v < 7) → fp_mx g m ≤ 7 := by
  intro m
  induction m with
  | zero => intro _; exact Nat.zero_le _
  | succ m ih =>
    intro h
    have h1 := ih (fun v hv => h v (by omega))
    have h2 := h m (by omega)
    show max (fp_mx g m) (g m + 1) ≤ 7
    omega
theorem fp_cu_s1 {g fr to : Nat → Nat} {left : Int32} {e : Nat} (h : nI e = left) : fp_cu g fr to left (e + 1) = fp_cu g fr to left e := by
  show fp_cu g fr to left e + (if nI e = left then 0 else if g (fr e) = g (to e) then 0 else 1) = _
  rw [if_pos h]; rfl
theorem fp_cu_s2 {g fr to : Nat → Nat} {left : Int32} {e : Nat} (h : ¬ nI e = left) (h2 : g (fr e) = g (to e)) : fp_cu g fr to left (e + 1) = fp_cu g fr to left e := by
  show fp_cu g fr to left e + (if nI e = left then 0 else if g (fr e) = g (to e) then 0 else 1) = _
  rw [if_neg h, if_pos h2]; rfl
theorem fp_cu_s3 {g fr to : Nat → Nat} {left : Int32} {e : Nat} (h : ¬ nI e = left) (h2 : ¬ g (fr e) = g (to e)) : fp_cu g fr to left (e + 1) = fp_cu g fr to left e + 1 := by
  show fp_cu g fr to left e + (if nI e = left then 0 else if g (fr e) = g (to e) then 0 else 1) = _
  rw [if_neg h, if_neg h2]
/-! X: groupsBefore -/
theorem fx_gb4 {post : Int32 → Prop} {F E : Int32} {o p a : Nat → Int32} {g : Nat → Nat} {m : Nat} (hm : m ≤ 7) (ha : ∀ v, v < m → a v = nI (g v)) (hg : ∀ v, v < m → g v < 7) (h : post (nI (fp_mx g m))) : ∀ d v, v + d = m → wX_groupsBefore_4 post (nI m) F E o p a (d + 1) (nI (fp_mx g v)) (nI v) := by
  intro d
  induction d with
  | zero =>
    intro v hv
    have e : v = m := by omega
    subst e
    exact pk_le v v (fun _ => h) (fun z => absurd z (by omega))
  | succ d ih =>
    intro v hv
    have h1 := hg v (by omega)
    have h2 := fp_mx_le (g := g) v (fun u hu => hg u (by omega))
    refine pk_le m v (fun z => absurd z (by omega)) (fun _ => ⟨pk_in v 7 (by omega), ?_⟩)
    rw [nI_clamp (by omega), ha v (by omega)]
    refine pk_lt (g v) (fp_mx g v) (fun z => nm_r (nI_1 v) ?_) (fun z => ⟨pk_in v 7 (by omega), nm_r (nI_1 (g v)) (nm_r (nI_1 v) ?_)⟩)
    · have h3 := ih (v + 1) (by omega)
      have e : fp_mx g (v + 1) = fp_mx g v := by
        show max (fp_mx g v) (g v + 1) = _
        omega
      rw [e] at h3
      exact h3
    · have h3 := ih (v + 1) (by omega)
      have e : fp_mx g (v + 1) = g v + 1 := by
        show max (fp_mx g v) (g v + 1) = _
        omega
      rw [e] at h3
      exact h3
theorem fx_gb {post : Int32 → Prop} {F E : Int32} {o p a : Nat → Int32} {t : List Nat} {m : Nat} (hl : t.length = m) (hm : m ≤ 7) (hr : fp_Rg t) (hp : fp_Rp a t) (h : post (nI (fp_ml t))) : wpX_groupsBefore post (F, E, o, p, a) (nI m) := by
  subst hl
  rw [← fp_mx_ml] at h
  exact ⟨t.length + 1, fx_gb4 hm hp (fp_Rp_lt7 hr hm).2 h t.length 0 (by omega)⟩
/-! X: joiningGroups -/
theorem fx_jg5 {post : Int32 → Prop} {F E : Int32} {o p a : Nat → Int32} {g : Nat → Nat} {n c : Nat} {left : Int32} (hn : n ≤ 7) (hc : c ≤ 17) (ok : fp_Ok n c o p) (ha : ∀ v, v < n → a v = nI (g v)) (hg : ∀ v, v < n → g v < 7) (h : post (nI (fp_cu g (fp_cl o) (fp_cl p) left c))) : ∀ d e, e + d = c → wX_joiningGroups_5 post (nI c) left F E o p a (d + 1) (nI (fp_cu g (fp_cl o) (fp_cl p) left e)) (nI e) := by
  intro d
  induction d with
  | zero =>
    intro v hv
    have e : v = c := by omega
    subst e
    exact pk_le v v (fun _ => h) (fun z => absurd z (by omega))
  | succ d ih =>
    intro e he
    have h3 := ih (e + 1) (by omega)
    refine pk_le c e (fun z => absurd z (by omega)) (fun _ => ?_)
    by_cases z : nI e = left
    · refine br_t z (nm_r (nI_1 e) ?_)
      rw [fp_cu_s1 z] at h3
      exact h3
    · refine br_f z ?_
      rw [nI_clamp (by omega)]
      obtain ⟨⟨o1, p1⟩, o2, p2, op⟩ := ok e (by omega)
      have ho : a (o e).toNatClampNeg = nI (g (fp_cl o e)) := ha _ o2
      have hp : a (p e).toNatClampNeg = nI (g (fp_cl p e)) := ha _ p2
      have g1 := hg _ o2
      have g2 := hg _ p2
      refine ⟨pk_in e 17 (by omega), pk_in (fp_cl o e) 7 (by omega) o1, pk_in e 17 (by omega), pk_in (fp_cl p e) 7 (by omega) p1, ?_⟩
      rw [ho, hp]
      refine pk_eq (g (fp_cl o e)) (g (fp_cl p e)) (fun y => nm_r (nI_1 e) ?_) (fun y => nm_r (nI_1 _) (nm_r (nI_1 e) ?_))
      · rw [fp_cu_s2 z y] at h3
        exact h3
      · rw [fp_cu_s3 z y] at h3
        exact h3
theorem fx_jg {post : Int32 → Prop} {F E : Int32} {o p a : Nat → Int32} {t : List Nat} {n c : Nat} {left : Int32} (hl : t.length = n) (hn : n ≤ 7) (hc : c ≤ 17) (ok : fp_Ok n c o p) (hr : fp_Rg t) (hp : fp_Rp a t) (h : post (nI (fp_cu (fp_lk t) (fp_cl o) (fp_cl p) left c))) : wpX_joiningGroups post (F, E, o, p, a) (nI c) left := by
  subst hl
  exact ⟨c + 1, fx_jg5 hn hc ok hp (fp_Rp_lt7 hr hn).2 h c 0 (by omega)⟩
/-! X: putAllInOneGroup -/
theorem fx_pa2 {post : SX → Prop} {n : Nat} {E : Int32} {o p : Nat → Int32} (hn : n ≤ 7) (h : ∀ a', (∀ v, v < n → a' v = 0) → post (nI n, E, o, p, a')) : ∀ d v a, v + d = n → (∀ u, u < v → a u = 0) → wX_putAllInOneGroup_2 post (nI n) E (d + 1) (nI v) o p a := by
  intro d
  induction d with
  | zero =>
    intro v a hv ha
    have e : v = n := by omega
    subst e
    exact pk_le v v (fun _ => h a ha) (fun z => absurd z (by omega))
  | succ d ih =>
    intro v a hv ha
    refine pk_le n v (fun z => absurd z (by omega)) (fun _ => ⟨pk_in v 7 (by omega), ?_⟩)
    rw [nI_clamp (by omega)]
    refine nm_e (nm_r (nI_1 v) (ih (v + 1) _ (by omega) (fun u hu => ?_)))
    by_cases e : u = v
    · rw [e, pk_us]
    · rw [pk_un e, ha u (by omega)]
theorem fx_pa {post : SX → Prop} {n : Nat} {E : Int32} {o p a : Nat → Int32} (hn : n ≤ 7) (h : ∀ a', fp_Rp a' (fp_zs n) → post (nI n, E, o, p, a')) : wpX_putAllInOneGroup post (nI n, E, o, p, a) := by
  refine ⟨n + 1, fx_pa2 hn (fun a' ha => h a' (fun v hv => ?_)) n 0 a (by omega) (fun u hu => absurd hu (by omega))⟩
  rw [fp_zs_len] at hv
  rw [ha v hv, fp_zs_lk]
  rfl
/-! X: goToNextGrouping -/
theorem fp_inc_1 (x : Nat) : fp_inc [x] = none := (if_neg (Nat.not_lt_zero x)).trans rfl
theorem fp_inc_t {x : Nat} {t : List Nat} (h : x < fp_ml t) : fp_inc (x :: t) = some ((x + 1) :: t) := if_pos h
theorem fp_inc_f {x : Nat} {t : List Nat} (h : ¬ x < fp_ml t) : fp_inc (x :: t) = (match fp_inc t with
    | none => none
    | some s => some (0 :: s)) := if_neg h
theorem fp_inc_fs {x : Nat} {t s : List Nat} (h : ¬ x < fp_ml t) (e : fp_inc t = some s) : fp_inc (x :: t) = some (0 :: s) := by rw [fp_inc_f h, e]
theorem fp_inc_fn {x : Nat} {t : List Nat} (h : ¬ x < fp_ml t) (e : fp_inc t = none) : fp_inc (x :: t) = none := by rw [fp_inc_f h, e]
theorem fx_gn7 {post : Int32 → SX → Prop} {n : Nat} {E : Int32} {o p : Nat → Int32} (hn : n ≤ 7) : ∀ (t : List Nat) (x d : Nat) (a : Nat → Int32), t.length + 1 + d = n → fp_Rg (x :: t) → fp_Rp a (x :: t) → (∀ v, t.length + 1 ≤ v → v < n → a v = 0) → (∀ w' a', fp_inc (x :: t) = some w' → fp_Rp a' (fp_zp d w') → post 1 (nI n, E, o, p, a')) → (fp_inc (x :: t) = none → ∀ a', post 0 (nI n, E, o, p, a')) → wX_goToNextGrouping_7 post (nI n) E (t.length + 1) (nI t.length) o p a := by
  intro t
  induction t with
  | nil =>
    intro x d a hd hr hp hz h1 h0
    exact pk_le 0 0 (fun _ => h0 (fp_inc_1 x) a) (fun z => absurd z (by omega))
  | cons y t ih =>
    intro x d a hd hr hp hz h1 h0
    have hL : (y :: t).length = t.length + 1 := rfl
    rw [hL] at hd hz ⊢
    obtain ⟨hx, hr2⟩ := hr
    have hp2 := fp_Rp_tl hp
    have hp3 : a (t.length + 1) = nI x := fp_Rp_hd hp
    have b1 := fp_Rp_lt7 hr2 (by omega)
    refine pk_le (t.length + 1) 0 (fun z => absurd z (by omega)) (fun _ => ⟨pk_in (t.length + 1) 7 (by omega), ?_⟩)
    refine fx_gb (t := y :: t) hL (by omega) hr2 hp2 ?_
    rw [nI_clamp (by omega), hp3]
    have b2 := b1.1
    refine pk_le (fp_ml (y :: t)) x (fun z => ⟨pk_in (t.length + 1) 7 (by omega), nm_e (nm_r (pk_m1 t.length) ?_)⟩) (fun z => ⟨pk_in (t.length + 1) 7 (by omega), pk_in (t.length + 1) 7 (by omega), nm_r (congrArg (upd a (t.length + 1)) (nI_1 x)) ?_⟩)
    · refine ih y (d + 1) (upd a (t.length + 1) 0) (by omega) hr2 (fun v hv => ?_) (fun v hv1 hv2 => ?_) (fun w' a' hw ha => ?_) (fun hw a' => ?_)
      · have hv' : v < t.length + 1 := hv
        rw [pk_un (by omega)]
        exact hp2 v hv
      · by_cases e : v = t.length + 1
        · rw [e, pk_us]
        · rw [pk_un e, hz v (by omega) hv2]
      · exact h1 (0 :: w') a' (fp_inc_fs (by omega) hw) ha
      · exact h0 (fp_inc_fn (by omega) hw) a'
    · refine h1 _ _ (fp_inc_t z) (fp_Rp_zp (fp_Rp_up hp) (fun v hv1 hv2 => ?_))
      have hv1' : t.length + 1 + 1 ≤ v := hv1
      have hv2' : v < t.length + 1 + 1 + d := hv2
      rw [pk_un (show v ≠ t.length + 1 from by omega)]
      exact hz v hv1' (by omega)
theorem fx_gn {post : Int32 → SX → Prop} {n : Nat} {E : Int32} {o p a : Nat → Int32} {s : List Nat} (h1n : 1 ≤ n) (hn : n ≤ 7) (hl : s.length = n) (hr : fp_Rg s) (hp : fp_Rp a s) (h1 : ∀ s' a', fp_inc s = some s' → fp_Rp a' s' → post 1 (nI n, E, o, p, a')) (h0 : fp_inc s = none → ∀ a', post 0 (nI n, E, o, p, a')) : wpX_goToNextGrouping post (nI n, E, o, p, a) := by
  cases s with
  | nil => exact absurd hl (by show ¬ 0 = n; omega)
  | cons x t =>
    have hl' : t.length + 1 = n := hl
    subst hl'
    exact nm_r (nI_pred t.length) ⟨t.length + 1, fx_gn7 hn t x 0 a rfl hr hp (fun v h h' => absurd h (by omega)) h1 h0⟩
/-! X: mostHeld -/
theorem fx_mh10 {post : Int32 → SX → Prop} {n k c : Nat} {E : Int32} {o p : Nat → Int32} {left : Int32} (h2 : 2 ≤ n) (h7 : n ≤ 7) (hc : c ≤ 17) (hk : k ≤ 16) (ok : fp_Ok n c o p) : ∀ (f i : Nat) (s : List Nat) (r : Nat) (a : Nat → Int32), i + f = 877 → s.length = n → fp_Rg s → fp_Rp a s → r ≤ 1000 → (∀ a', post (nI (fp_mf (fp_val n k (fp_cl o) (fp_cl p) left c) (fp_seq f s) r)) (nI n, E, o, p, a')) → wX_mostHeld_10 post (nI k) (nI c) left (f + 1) (nI r) (nI i) (nI n) E o p a := by
  intro f
  induction f with
  | zero =>
    intro i s r a hi hl hr hp hr1 h
    exact pk_le 877 i (fun _ => h a) (fun z => absurd z (by omega))
  | succ f ih =>
    intro i s r a hi hl hr hp hr1 h
    have b1 := fp_ml_le s hr
    have b2 := fp_cu_le (fp_lk s) (fp_cl o) (fp_cl p) left c
    have b3 : k * (n - fp_ml s) ≤ 16 * 7 := Nat.mul_le_mul hk (by omega)
    have b4 : fp_val n k (fp_cl o) (fp_cl p) left c s ≤ 200 := by
      show k * (n - fp_ml s) + fp_cu (fp_lk s) (fp_cl o) (fp_cl p) left c ≤ 200
      omega
    have key : ∀ r', r' ≤ 1000 → (if fp_val n k (fp_cl o) (fp_cl p) left c s < r then fp_val n k (fp_cl o) (fp_cl p) left c s else r) = r' → wX_mostHeld_57 post (wX_mostHeld_10 post (nI k) (nI c) left (f + 1)) (nI k) (nI c) left (nI r') (nI i) (nI n) E o p a := by
      intro r' hr' e
      have h' : ∀ a', post (nI (fp_mf (fp_val n k (fp_cl o) (fp_cl p) left c) (match fp_inc s with
        | none => []
        | some s' => fp_seq f s') r')) (nI n, E, o, p, a') := by
        intro a'
        have h3 := h a'
        rw [← e]
        exact h3
      refine fx_gn (s := s) (by omega) h7 hl hr hp (fun s' a' hs ha => ?_) (fun hs a' => ?_)
      · rw [hs] at h'
        have ⟨c1, c2⟩ := fp_inc_Rg s s' hr hs
        exact br_f (by decide) (nm_r (nI_1 i) (ih (i + 1) s' r' a' (by omega) (by omega) c1 ha hr' h'))
      · rw [hs] at h'
        exact br_t rfl (h' a')
    refine pk_le 877 i (fun z => absurd z (by omega)) (fun _ => fx_gb hl h7 hr hp (fx_jg hl h7 hc ok hr hp (nm_r (e' := nI (fp_val n k (fp_cl o) (fp_cl p) left c s)) ?_ ?_)))
    · rw [pk_sub (by omega), pk_mul, nI_add]
      rfl
    · refine pk_le r (fp_val n k (fp_cl o) (fp_cl p) left c s) (fun z => key _ hr1 (if_neg (by omega))) (fun z => key _ (by omega) (if_pos z))
theorem fx_mh {post : Int32 → SX → Prop} {n k c : Nat} {E : Int32} {o p a : Nat → Int32} {left : Int32} (h2 : 2 ≤ n) (h7 : n ≤ 7) (hc : c ≤ 17) (hk : k ≤ 16) (ok : fp_Ok n c o p) (h : ∀ a', post (nI (fp_MH n k (fp_cl o) (fp_cl p) left c)) (nI n, E, o, p, a')) : wpX_mostHeld post (nI n, E, o, p, a) (nI k) (nI c) left := by
  refine fx_pa h7 (fun a' ha => ⟨877 + 1, ?_⟩)
  exact fx_mh10 h2 h7 hc hk ok 877 0 (fp_zs n) c a' rfl (fp_zs_len n) (fp_zs_Rg n) ha (by omega) h
end
section
/-! Y: mostBefore -/
theorem fy_mb4 {post : Int32 → Prop} {F E : Int32} {o p a l : Nat → Int32} {g : Nat → Nat} {m : Nat} (hm : m ≤ 7) (ha : ∀ v, v < m → a v = nI (g v)) (hg : ∀ v, v < m → g v < 7) (h : post (fp_mo (fp_mx g m))) : ∀ d v, v + d = m → wY_mostBefore_4 post (nI m) F E o p a l (d + 1) (fp_mo (fp_mx g v)) (nI v) := by
  intro d
  induction d with
  | zero =>
    intro v hv
    have e : v = m := by omega
    subst e
    exact pk_le v v (fun _ => h) (fun z => absurd z (by omega))
  | succ d ih =>
    intro v hv
    have h1 := hg v (by omega)
    have h2 := fp_mx_le (g := g) v (fun u hu => hg u (by omega))
    refine pk_le m v (fun z => absurd z (by omega)) (fun _ => ⟨pk_in v 7 (by omega), ?_⟩)
    rw [nI_clamp (by omega), ha v (by omega)]
    refine fp_if (fp_mo_le (by omega) (by omega)) (fun z => nm_r (nI_1 v) ?_) (fun z => ⟨pk_in v 7 (by omega), nm_r (fp_mo_s (g v)).symm (nm_r (nI_1 v) ?_)⟩)
    · have h3 := ih (v + 1) (by omega)
      have e : fp_mx g (v + 1) = fp_mx g v := by
        show max (fp_mx g v) (g v + 1) = _
        omega
      rw [e] at h3
      exact h3
    · have h3 := ih (v + 1) (by omega)
      have e : fp_mx g (v + 1) = g v + 1 := by
        show max (fp_mx g v) (g v + 1) = _
        omega
      rw [e] at h3
      exact h3
theorem fy_mb {post : Int32 → Prop} {F E : Int32} {o p a l : Nat → Int32} {t : List Nat} {m : Nat} (hl : t.length = m) (hm : m ≤ 7) (hr : fp_Rg t) (hp : fp_Rp a t) (h : post (fp_mo (fp_ml t))) : wpY_mostBefore post (F, E, o, p, a, l) (nI m) := by
  subst hl
  rw [← fp_mx_ml] at h
  have h3 := fy_mb4 (F := F) (E := E) (o := o) (p := p) (l := l) hm hp (fp_Rp_lt7 hr hm).2 h t.length 0 (by omega)
  have e : fp_mo (fp_mx (fp_lk t) 0) = -1 := fp_mo_0
  rw [e] at h3
  exact ⟨t.length + 1, h3⟩
/-! Y: cutEdges -/
theorem fy_ce5 {post : Int32 → Prop} {F E : Int32} {o p a l : Nat → Int32} {g : Nat → Nat} {n c : Nat} {left : Int32} (hn : n ≤ 7) (hc : c ≤ 17) (ok : fp_Ok n c o p) (ha : ∀ v, v < n → a v = nI (g v)) (hg : ∀ v, v < n → g v < 7) (h : post (nI (fp_cu g (fp_cl o) (fp_cl p) left c))) : ∀ d e, e + d = c → wY_cutEdges_5 post (nI c) left F E o p a l (d + 1) (nI (fp_cu g (fp_cl o) (fp_cl p) left e)) (nI e) := by
  intro d
  induction d with
  | zero =>
    intro v hv
    have e : v = c := by omega
    subst e
    exact pk_le v v (fun _ => h) (fun z => absurd z (by omega))
  | succ d ih =>
    intro e he
    have h3 := ih (e + 1) (by omega)
    refine pk_le c e (fun z => absurd z (by omega)) (fun _ => ?_)
    by_cases z : nI e = left
    · refine br_t z (nm_r (nI_1 e) ?_)
      rw [fp_cu_s1 z] at h3
      exact h3
    · refine br_f z ?_
      rw [nI_clamp (by omega)]
      obtain ⟨⟨o1, p1⟩, o2, p2, op⟩ := ok e (by omega)
      have ho : a (o e).toNatClampNeg = nI (g (fp_cl o e)) := ha _ o2
      have hp : a (p e).toNatClampNeg = nI (g (fp_cl p e)) := ha _ p2
      have g1 := hg _ o2
      have g2 := hg _ p2
      refine ⟨pk_in e 17 (by omega), pk_in (fp_cl o e) 7 (by omega) o1, pk_in e 17 (by omega), pk_in (fp_cl p e) 7 (by omega) p1, ?_⟩
      rw [ho, hp]
      refine pk_eq (g (fp_cl o e)) (g (fp_cl p e)) (fun y => nm_r (nI_1 e) ?_) (fun y => nm_r (nI_1 _) (nm_r (nI_1 e) ?_))
      · rw [fp_cu_s2 z y] at h3
        exact h3
      · rw [fp_cu_s3 z y] at h3
        exact h3
theorem fy_ce {post : Int32 → Prop} {F E : Int32} {o p a l : Nat → Int32} {t : List Nat} {n c : Nat} {left : Int32} (hl : t.length = n) (hn : n ≤ 7) (hc : c ≤ 17) (ok : fp_Ok n c o p) (hr : fp_Rg t) (hp : fp_Rp a t) (h : post (nI (fp_cu (fp_lk t) (fp_cl o) (fp_cl p) left c))) : wpY_cutEdges post (F, E, o, p, a, l) (nI c) left := by
  subst hl
  exact ⟨c + 1, fy_ce5 hn hc ok hp (fp_Rp_lt7 hr hn).2 h c 0 (by omega)⟩
/-! Y: nextParting -/
theorem fy_np39 {post : Int32 → SY → Prop} {n : Nat} {E : Int32} {o p l : Nat → Int32} (hn : n ≤ 7) : ∀ (d v : Nat) (b : Nat → Int32), v + d = n → (∀ a', (∀ u, u < v → a' u = b u) → (∀ u, v ≤ u → u < n → a' u = 0) → post 1 (nI n, E, o, p, a', l)) → wY_nextParting_39 post (nI n) E (d + 1) (nI v) o p b l := by
  intro d
  induction d with
  | zero =>
    intro v b hv h
    have e : v = n := by omega
    subst e
    exact pk_le v v (fun _ => h b (fun _ _ => rfl) (fun u h1 h2 => absurd h1 (by omega))) (fun z => absurd z (by omega))
  | succ d ih =>
    intro v b hv h
    refine pk_le n v (fun z => absurd z (by omega)) (fun _ => ⟨pk_in v 7 (by omega), ?_⟩)
    rw [nI_clamp (by omega)]
    refine nm_e (nm_r (nI_1 v) (ih (v + 1) _ (by omega) (fun a' h1 h2 => h a' (fun u hu => ?_) (fun u hu1 hu2 => ?_))))
    · rw [h1 u (by omega), pk_un (by omega)]
    · by_cases e : u = v
      · rw [h1 u (by omega), e, pk_us]
      · exact h2 u (by omega) hu2
theorem fy_np7 {post : Int32 → SY → Prop} {n : Nat} {E : Int32} {o p l a : Nat → Int32} (hn : n ≤ 7) : ∀ (t : List Nat) (x d : Nat), t.length + 1 + d = n → fp_Rg (x :: t) → fp_Rp a (x :: t) → (∀ w' a', fp_inc (x :: t) = some w' → fp_Rp a' (fp_zp d w') → post 1 (nI n, E, o, p, a', l)) → (fp_inc (x :: t) = none → ∀ a', post 0 (nI n, E, o, p, a', l)) → wY_nextParting_7 post (nI n) E o p a l (t.length + 1) (nI t.length) := by
  intro t
  induction t with
  | nil =>
    intro x d hd hr hp h1 h0
    exact pk_le 0 0 (fun _ => h0 (fp_inc_1 x) a) (fun z => absurd z (by omega))
  | cons y t ih =>
    intro x d hd hr hp h1 h0
    have hL : (y :: t).length = t.length + 1 := rfl
    rw [hL] at hd ⊢
    obtain ⟨hx, hr2⟩ := hr
    have hp2 := fp_Rp_tl hp
    have hp3 : a (t.length + 1) = nI x := fp_Rp_hd hp
    have b1 := fp_Rp_lt7 hr2 (by omega)
    refine pk_le (t.length + 1) 0 (fun z => absurd z (by omega)) (fun _ => ⟨pk_in (t.length + 1) 7 (by omega), ?_⟩)
    refine fy_mb (t := y :: t) hL (by omega) hr2 hp2 ?_
    rw [nI_clamp (by omega), hp3]
    have b2 := b1.1
    refine fp_if (fp_mo_lt (by omega) (by omega)) (fun z => nm_r (pk_m1 t.length) ?_) (fun z => ⟨pk_in (t.length + 1) 7 (by omega), pk_in (t.length + 1) 7 (by omega), nm_r (congrArg (upd a (t.length + 1)) (nI_1 x)) (nm_r (nI_1 (t.length + 1)) ⟨d + 1, ?_⟩)⟩)
    · exact ih y (d + 1) (by omega) hr2 hp2 (fun w' a' hw ha => h1 (0 :: w') a' (fp_inc_fs (by omega) hw) ha) (fun hw a' => h0 (fp_inc_fn (by omega) hw) a')
    · refine fy_np39 hn d (t.length + 1 + 1) _ (by omega) (fun a' e1 e2 => ?_)
      refine h1 _ a' (fp_inc_t (by omega)) (fp_Rp_zp (fun v hv => ?_) (fun v hv1 hv2 => ?_))
      · have hv' : v < t.length + 1 + 1 := hv
        rw [e1 v hv']
        exact fp_Rp_up hp v hv
      · have hv1' : t.length + 1 + 1 ≤ v := hv1
        have hv2' : v < t.length + 1 + 1 + d := hv2
        exact e2 v hv1' (by omega)
theorem fy_np {post : Int32 → SY → Prop} {n : Nat} {E : Int32} {o p a l : Nat → Int32} {s : List Nat} (h1n : 1 ≤ n) (hn : n ≤ 7) (hl : s.length = n) (hr : fp_Rg s) (hp : fp_Rp a s) (h1 : ∀ s' a', fp_inc s = some s' → fp_Rp a' s' → post 1 (nI n, E, o, p, a', l)) (h0 : fp_inc s = none → ∀ a', post 0 (nI n, E, o, p, a', l)) : wpY_nextParting post (nI n, E, o, p, a, l) := by
  cases s with
  | nil => exact absurd hl (by show ¬ 0 = n; omega)
  | cons x t =>
    have hl' : t.length + 1 = n := hl
    subst hl'
    exact nm_r (nI_pred t.length) ⟨t.length + 1, fy_np7 hn t x 0 rfl hr hp h1 h0⟩
/-! Y: findCuts -/
theorem fp_ls_c {w : List Nat → Nat} {m r r' : Nat} {l : List (List Nat)} {t : List Nat} (e : r' = (if fp_ml t = m then (if w t < r then w t else r) else r)) : fp_ls w m l r' = fp_ls w m (t :: l) r := by
  rw [e]
  rfl
theorem fy_fc49 {post : SY → Prop} {n c : Nat} {E : Int32} {o p : Nat → Int32} {left : Int32} (h2 : 2 ≤ n) (h7 : n ≤ 7) (hc : c ≤ 17) (ok : fp_Ok n c o p) : ∀ (f i : Nat) (s : List Nat) (ls : Nat → Nat) (a l : Nat → Int32), i + f = 877 → s.length = n → fp_Rg s → fp_Rp a s → (∀ m, m < 8 → l m = nI (ls m) ∧ ls m ≤ 1000) → (∀ a' l', (∀ m, m < 8 → l' m = nI (fp_ls (fp_cw (fp_cl o) (fp_cl p) left c) m (fp_seq f s) (ls m))) → post (nI n, E, o, p, a', l')) → wY_findCuts_49 post (nI c) left (f + 1) 1 (nI i) (nI n) E o p a l := by
  intro f
  induction f with
  | zero =>
    intro i s ls a l hi hl hr hp hls h
    exact pk_le 877 i (fun _ => h a l (fun m hm => (hls m hm).1)) (fun z => absurd z (by omega))
  | succ f ih =>
    intro i s ls a l hi hl hr hp hls h
    have b1 := fp_ml_le s hr
    have b2 := fp_cu_le (fp_lk s) (fp_cl o) (fp_cl p) left c
    have b5 := (hls (fp_ml s) (by omega)).2
    have key : ∀ r', r' ≤ 1000 → r' = (if fp_cw (fp_cl o) (fp_cl p) left c s < ls (fp_ml s) then fp_cw (fp_cl o) (fp_cl p) left c s else ls (fp_ml s)) → wY_findCuts_111 post (wY_findCuts_49 post (nI c) left (f + 1)) (nI c) left (nI i) (nI r') (nI (fp_ml s)) (nI n) E o p a l := by
      intro r' hr' e
      have hls' : ∀ m, m < 8 → upd l (fp_ml s) (nI r') m = nI ((fun m => if m = fp_ml s then r' else ls m) m) ∧ (fun m => if m = fp_ml s then r' else ls m) m ≤ 1000 := by
        intro m hm
        dsimp only
        by_cases y : m = fp_ml s
        · rw [if_pos y, y, pk_us]
          exact ⟨rfl, hr'⟩
        · rw [if_neg y, pk_un y]
          exact hls m hm
      have hee : ∀ m, (fun m => if m = fp_ml s then r' else ls m) m = (if fp_ml s = m then (if fp_cw (fp_cl o) (fp_cl p) left c s < ls m then fp_cw (fp_cl o) (fp_cl p) left c s else ls m) else ls m) := by
        intro m
        dsimp only
        by_cases y : m = fp_ml s
        · rw [if_pos y, if_pos y.symm, y]
          exact e
        · rw [if_neg y, if_neg (fun z => y z.symm)]
      refine ⟨pk_in (fp_ml s) 8 (by omega), nm_r (by rw [nI_clamp (show fp_ml s < 2 ^ 31 by omega)]) ?_⟩
      refine fy_np (s := s) (by omega) h7 hl hr hp (fun s' a' hs ha => ?_) (fun hs a' => ?_)
      · have ⟨c1, c2⟩ := fp_inc_Rg s s' hr hs
        refine nm_r (nI_1 i) (ih (i + 1) s' (fun m => if m = fp_ml s then r' else ls m) a' _ (by omega) (by omega) c1 ha hls' (fun a2 l2 h3 => h a2 l2 (fun m hm => ?_)))
        rw [h3 m hm, fp_ls_c (hee m)]
        show _ = nI (fp_ls _ m (s :: (match fp_inc s with
          | none => []
          | some s' => fp_seq f s')) (ls m))
        rw [hs]
      · have h4 : post (nI n, E, o, p, a', upd l (fp_ml s) (nI r')) := by
          refine h a' _ (fun m hm => ?_)
          rw [(hls' m hm).1, hee m]
          show _ = nI (fp_ls _ m (s :: (match fp_inc s with
            | none => []
            | some s' => fp_seq f s')) (ls m))
          rw [hs]
          rfl
        exact nm_r (nI_1 i) (br_c (fun _ => h4) (fun _ => br_t rfl h4))
    refine pk_le 877 i (fun z => absurd z (by omega)) (fun _ => br_f (by decide) (fy_mb hl h7 hr hp (nm_r (fp_mo_1 (fp_ml s)) (fy_ce hl h7 hc ok hr hp ⟨pk_in (fp_ml s) 8 (by omega), ?_⟩))))
    rw [nI_clamp (by omega), (hls (fp_ml s) (by omega)).1]
    have b6 : fp_cu (fp_lk s) (fp_cl o) (fp_cl p) left c = fp_cw (fp_cl o) (fp_cl p) left c s := rfl
    rw [b6] at b2 ⊢
    exact pk_le (ls (fp_ml s)) (fp_cw (fp_cl o) (fp_cl p) left c s) (fun z => ⟨pk_in (fp_ml s) 8 (by omega), key _ b5 (if_neg (by omega)).symm⟩) (fun z => key _ (by omega) (if_pos z).symm)
theorem fy_fc25 {post : SY → Prop} {n : Nat} {E C left : Int32} {o p l : Nat → Int32} (h : ∀ a', (∀ v, v < 7 → a' v = 0) → ∃ n49 : Nat, wY_findCuts_49 post C left n49 1 0 (nI n) E o p a' l) : ∀ d v a, v + d = 7 → (∀ u, u < v → a u = 0) → wY_findCuts_25 post C left (nI n) E (d + 1) (nI v) o p a l := by
  intro d
  induction d with
  | zero =>
    intro v a hv ha
    exact pk_le 7 v (fun _ => h a (fun u hu => ha u (by omega))) (fun z => absurd z (by omega))
  | succ d ih =>
    intro v a hv ha
    refine pk_le 7 v (fun z => absurd z (by omega)) (fun _ => ⟨pk_in v 7 (by omega), ?_⟩)
    rw [nI_clamp (by omega)]
    refine nm_e (nm_r (nI_1 v) (ih (v + 1) _ (by omega) (fun u hu => ?_)))
    by_cases e : u = v
    · rw [e, pk_us]
    · rw [pk_un e, ha u (by omega)]
theorem fy_fc2 {post : SY → Prop} {n : Nat} {E C left : Int32} {o p a : Nat → Int32} (h : ∀ l', (∀ m, m < 8 → l' m = nI 1000) → ∃ n25 : Nat, wY_findCuts_25 post C left (nI n) E n25 0 o p a l') : ∀ d v l, v + d = 8 → (∀ u, u < v → l u = nI 1000) → wY_findCuts_2 post C left (nI n) E (d + 1) (nI v) o p a l := by
  intro d
  induction d with
  | zero =>
    intro v l hv hl
    exact pk_le 8 v (fun _ => h l (fun u hu => hl u (by omega))) (fun z => absurd z (by omega))
  | succ d ih =>
    intro v l hv hl
    refine pk_le 8 v (fun z => absurd z (by omega)) (fun _ => ⟨pk_in v 8 (by omega), ?_⟩)
    rw [nI_clamp (by omega)]
    refine nm_e (nm_r (nI_1 v) (ih (v + 1) _ (by omega) (fun u hu => ?_)))
    by_cases e : u = v
    · rw [e, pk_us]
      rfl
    · rw [pk_un e, hl u (by omega)]
theorem fy_fc {post : SY → Prop} {n c : Nat} {E : Int32} {o p a l : Nat → Int32} {left : Int32} (h2 : 2 ≤ n) (h7 : n ≤ 7) (hc : c ≤ 17) (ok : fp_Ok n c o p) (h : ∀ a' l', (∀ m, m < 8 → l' m = nI (fp_LS n (fp_cl o) (fp_cl p) left c m)) → post (nI n, E, o, p, a', l')) : wpY_findCuts post (nI n, E, o, p, a, l) (nI c) left := by
  refine ⟨8 + 1, fy_fc2 (fun l' hl' => ⟨7 + 1, fy_fc25 (fun a' ha' => ⟨877 + 1, ?_⟩) 7 0 a rfl (fun u hu => absurd hu (by omega))⟩) 8 0 l rfl (fun u hu => absurd hu (by omega))⟩
  refine fy_fc49 h2 h7 hc ok 877 0 (fp_zs n) (fun _ => 1000) a' l' rfl (fp_zs_len n) (fp_zs_Rg n) (fun v hv => ?_) (fun m hm => ⟨hl' m hm, Nat.le_refl _⟩) h
  rw [fp_zs_len] at hv
  rw [ha' v (by omega), fp_zs_lk]
  rfl
/-! Y: bound -/
theorem fy_bd6 {post : Int32 → Prop} {n k : Nat} {E : Int32} {o p a l : Nat → Int32} {ls : Nat → Nat} (h7 : n ≤ 7) (hk : k ≤ 16) (hl : ∀ m, m < 8 → l m = nI (ls m) ∧ ls m ≤ 1000) (h : post (nI (fp_bd n k ls n))) : ∀ d j, j + d = n → wY_bound_6 post (nI k) (nI n) E o p a l (d + 1) (nI (fp_bd n k ls j)) (nI (j + 1)) := by
  intro d
  induction d with
  | zero =>
    intro j hj
    have e : j = n := by omega
    subst e
    exact pk_lt j (j + 1) (fun _ => h) (fun z => absurd z (by omega))
  | succ d ih =>
    intro j hj
    have h3 := ih (j + 1) (by omega)
    obtain ⟨l1, l2⟩ := hl (j + 1) (by omega)
    have b3 : k * (n - (j + 1)) ≤ 16 * 7 := Nat.mul_le_mul hk (by omega)
    have b4 := ((fp_bd_le n k ls j (fp_bd n k ls j)).mp (Nat.le_refl _)).1
    refine pk_lt n (j + 1) (fun z => absurd z (by omega)) (fun _ => ⟨pk_in (j + 1) 8 (by omega), ?_⟩)
    rw [nI_clamp (by omega), l1, pk_sub (by omega), pk_mul, nI_add]
    refine nm_e (pk_le (fp_bd n k ls j) (ls (j + 1) + k * (n - (j + 1))) (fun z => nm_r (nI_1 (j + 1)) ?_) (fun z => nm_r (nI_1 (j + 1)) ?_))
    · have e : fp_bd n k ls (j + 1) = fp_bd n k ls j := if_neg (by omega)
      rw [e] at h3
      exact h3
    · have e : fp_bd n k ls (j + 1) = ls (j + 1) + k * (n - (j + 1)) := if_pos z
      rw [e] at h3
      exact h3
theorem fp_LS_1000 {n : Nat} {fr to : Nat → Nat} {left : Int32} {c m : Nat} : fp_LS n fr to left c m ≤ 1000 := (fp_LS_le.mp (Nat.le_refl _)).1
theorem fy_bd {post : Int32 → Prop} {n k c : Nat} {E : Int32} {o p a l : Nat → Int32} {fr to : Nat → Nat} {left : Int32} (h2 : 2 ≤ n) (h7 : n ≤ 7) (hc : c ≤ 17) (hk : k ≤ 16) (hl : ∀ m, m < 8 → l m = nI (fp_LS n fr to left c m)) (h : post (nI (fp_MH n k fr to left c))) : wpY_bound post (nI n, E, o, p, a, l) (nI k) := by
  rw [fp_MH_bd h2 h7 hc] at h
  exact ⟨n + 1, fy_bd6 h7 hk (fun m hm => ⟨hl m hm, fp_LS_1000⟩) h n 0 (by omega)⟩
end
section
/-! the small own methods, X and Y side by side -/
theorem fx_iv0 {post : Int32 → Prop} {N E v : Int32} {o p a : Nat → Int32} (h : v < 0 ∨ N ≤ v) (hp : post 0) : wpX_isVertex post (N, E, o, p, a) v :=
  br_c (fun _ => hp) (fun h0 => br_t (h.resolve_left h0) hp)
theorem fx_iv1 {post : Int32 → Prop} {n j : Nat} {E : Int32} {o p a : Nat → Int32} (hn : n ≤ 7) (h : j < n) (hp : post 1) : wpX_isVertex post (nI n, E, o, p, a) (nI j) :=
  br_f (nI_pos (by omega)) (br_f (nI_ge h (by omega)) hp)
def fp_Pair (n : Nat) (v1 v2 : Int32) : Prop := ∃ x y : Nat, v1 = nI x ∧ v2 = nI y ∧ x < n ∧ y < n ∧ x ≠ y
def fp_XP (n : Nat) (v1 v2 r : Int32) : Prop := ∀ (post : Int32 → Prop) (E : Int32) (o p a : Nat → Int32), post r → wpX_canBeJoined post (nI n, E, o, p, a) v1 v2
def fp_YP (n : Nat) (v1 v2 r : Int32) : Prop := ∀ (post : Int32 → Prop) (E : Int32) (o p b l : Nat → Int32), post r → wpY_isPair post (nI n, E, o, p, b, l) v1 v2
theorem fp_neg {n : Nat} {v : Int32} (hn : n ≤ 7) (h : v < 0 ∨ nI n ≤ v) {x : Nat} (e : v = nI x) : ¬ x < n := by
  intro hx
  cases h with
  | inl h => rw [e] at h; exact nI_pos (by omega) h
  | inr h => rw [e] at h; exact nI_ge hx (by omega) h
theorem fp_pair (n : Nat) (hn : n ≤ 7) (v1 v2 : Int32) : (fp_XP n v1 v2 0 ∧ fp_YP n v1 v2 0 ∧ ¬ fp_Pair n v1 v2) ∨ (fp_XP n v1 v2 1 ∧ fp_YP n v1 v2 1 ∧ fp_Pair n v1 v2) := by
  have split : ∀ v : Int32, (v < 0 ∨ nI n ≤ v) ∨ ∃ j : Nat, j < n ∧ v = nI j := by
    intro v
    rcases pk_ix v (n := n) (by omega) with h | h | h
    · exact Or.inl (Or.inl h)
    · exact Or.inl (Or.inr h)
    · exact Or.inr h
  rcases split v1 with h1 | ⟨x, hx, rfl⟩
  · refine Or.inl ⟨fun post E o p a hp => ?_, fun post E o p b l hp => ?_, fun ⟨x, y, e1, e2, hx, hy, hxy⟩ => fp_neg hn h1 e1 hx⟩
    · unfold wpX_canBeJoined
      dsimp only
      refine fx_iv0 h1 ?_
      exact br_t rfl hp
    · exact br_c (fun _ => hp) (fun h0 => br_t (h1.resolve_left h0) hp)
  · have px : ¬ nI x < 0 := nI_pos (by omega)
    have qx : ¬ nI n ≤ nI x := nI_ge hx (by omega)
    rcases split v2 with h2 | ⟨y, hy, rfl⟩
    · refine Or.inl ⟨fun post E o p a hp => ?_, fun post E o p b l hp => ?_, fun ⟨x, y, e1, e2, hx, hy, hxy⟩ => fp_neg hn h2 e2 hy⟩
      · unfold wpX_canBeJoined
        dsimp only
        refine fx_iv1 hn hx ?_
        refine br_f (by decide) ?_
        refine fx_iv0 h2 ?_
        exact br_t rfl hp
      · exact br_f px (br_f qx (br_c (fun _ => hp) (fun h0 => br_t (h2.resolve_left h0) hp)))
    · have py : ¬ nI y < 0 := nI_pos (by omega)
      have qy : ¬ nI n ≤ nI y := nI_ge hy (by omega)
      by_cases e : x = y
      · subst e
        refine Or.inl ⟨fun post E o p a hp => ?_, fun post E o p b l hp => ?_, fun ⟨x', y', e1, e2, hx', hy', hxy⟩ => hxy ?_⟩
        · unfold wpX_canBeJoined
          dsimp only
          refine fx_iv1 hn hx ?_
          refine br_f (by decide) ?_
          refine fx_iv1 hn hy ?_
          exact br_f (by decide) (br_t rfl hp)
        · exact br_f px (br_f qx (br_f py (br_f qy (br_t rfl hp))))
        · have f1 := (nI_eq (by omega) (by omega)).mp e1
          have f2 := (nI_eq (by omega) (by omega)).mp e2
          omega
      · have ne : ¬ nI x = nI y := fun z => e ((nI_eq (by omega) (by omega)).mp z)
        refine Or.inr ⟨fun post E o p a hp => ?_, fun post E o p b l hp => ?_, x, y, rfl, rfl, hx, hy, e⟩
        · unfold wpX_canBeJoined
          dsimp only
          refine fx_iv1 hn hx ?_
          refine br_f (by decide) ?_
          refine fx_iv1 hn hy ?_
          exact br_f (by decide) (br_f ne hp)
        · exact br_f px (br_f qx (br_f py (br_f qy (br_f ne hp))))
def fp_XN (v r : Int32) : Prop := ∀ (post : Int32 → Prop) (F E : Int32) (o p a : Nat → Int32), post r → wpX_isForestCount post (F, E, o, p, a) v
def fp_YN (v r : Int32) : Prop := ∀ (post : Int32 → Prop) (F E : Int32) (o p b l : Nat → Int32), post r → wpY_isNumber post (F, E, o, p, b, l) v
theorem fp_num (v : Int32) : (fp_XN v 0 ∧ fp_YN v 0) ∨ (fp_XN v 1 ∧ fp_YN v 1 ∧ ∃ k : Nat, k ≤ 16 ∧ v = nI k) := by
  by_cases h : v < 0
  · exact Or.inl ⟨fun post F E o p a hp => br_t h hp, fun post F E o p b l hp => br_t h hp⟩
  · obtain ⟨j, hj, rfl⟩ := nI_of h
    by_cases h2 : 16 < j
    · have h3 : (16 : Int32) < nI j := nI_lt (a := 16) h2 hj
      exact Or.inl ⟨fun post F E o p a hp => br_f h (br_t h3 hp), fun post F E o p b l hp => br_f h (br_t h3 hp)⟩
    · have h3 : ¬ (16 : Int32) < nI j := nI_nlt (b := j) (a := 16) (by omega) (by decide)
      exact Or.inr ⟨fun post F E o p a hp => br_f h (br_f h3 hp), fun post F E o p b l hp => br_f h (br_f h3 hp), j, by omega, rfl⟩
def fp_XE (c : Nat) (v r : Int32) : Prop := ∀ (post : Int32 → Prop) (F : Int32) (o p a : Nat → Int32), post r → wpX_isEdge post (F, nI c, o, p, a) v
theorem fp_edg (c : Nat) (hc : c ≤ 16) (v : Int32) : (fp_XE c v 0 ∧ (v < 0 ∨ nI c ≤ v)) ∨ (fp_XE c v 1 ∧ ∃ e : Nat, e < c ∧ v = nI e) := by
  rcases pk_ix v (n := c) (by omega) with h | h | ⟨j, hj, rfl⟩
  · exact Or.inl ⟨fun post F o p a hp => br_t h hp, Or.inl h⟩
  · exact Or.inl ⟨fun post F o p a hp => br_c (fun _ => hp) (fun _ => br_t h hp), Or.inr h⟩
  · exact Or.inr ⟨fun post F o p a hp => br_f (nI_pos (by omega)) (br_f (nI_ge hj (by omega)) hp), j, hj, rfl⟩
theorem fx_se {post : SX → Prop} {F E : Int32} {o p a : Nat → Int32} {e : Nat} {v1 v2 : Int32} (he : e ≤ 16) (h : post (F, E, upd o e v1, upd p e v2, a)) : wpX_setEnds post (F, E, o, p, a) (nI e) v1 v2 :=
  ⟨pk_in e 17 (by omega), nm_r (congrArg (fun z => upd o z v1) (nI_clamp (by omega))) ⟨pk_in e 17 (by omega), nm_r (congrArg (fun z => upd p z v2) (nI_clamp (by omega))) h⟩⟩
theorem fp_cl_us {o : Nat → Int32} {e x : Nat} (h : x < 2 ^ 31) : fp_cl (upd o e (nI x)) e = x := by
  show (upd o e (nI x) e).toNatClampNeg = x
  rw [pk_us, nI_clamp h]
theorem fp_cl_un {o : Nat → Int32} {e i : Nat} {z : Int32} (h : i ≠ e) : fp_cl (upd o e z) i = fp_cl o i := by
  show (upd o e z i).toNatClampNeg = (o i).toNatClampNeg
  rw [pk_un h]
theorem fp_Ok_up {n c c' e x y : Nat} {o p : Nat → Int32} (hn : n ≤ 7) (ok : fp_Ok n c o p) (hx : x < n) (hy : y < n) (hxy : x ≠ y) (hc : ∀ i, i < c' → i ≠ e → i < c) : fp_Ok n c' (upd o e (nI x)) (upd p e (nI y)) := by
  intro i hi
  by_cases z : i = e
  · subst z
    rw [fp_cl_us (by omega), fp_cl_us (by omega)]
    exact ⟨⟨pk_us, pk_us⟩, hx, hy, hxy⟩
  · rw [fp_cl_un z, fp_cl_un z, pk_un z, pk_un z]
    exact ok i (hc i hi z)
theorem fp_Ok_le {n c c' : Nat} {o p : Nat → Int32} (ok : fp_Ok n c o p) (h : c' ≤ c) : fp_Ok n c' o p := fun e he => ok e (by omega)
/-! the relation -/
def i_Rel (_ : Nat) (u : SX) (v : SY) : Prop := ∃ (n c : Nat) (o p a b l : Nat → Int32), u = (nI n, nI c, o, p, a) ∧ v = (nI n, nI c, o, p, b, l) ∧ 2 ≤ n ∧ n ≤ 7 ∧ c ≤ 16 ∧ fp_Ok n c o p
theorem fp_rel {k n c : Nat} {o p : Nat → Int32} (a b l : Nat → Int32) (h2 : 2 ≤ n) (h7 : n ≤ 7) (hc : c ≤ 16) (ok : fp_Ok n c o p) : i_Rel k (nI n, nI c, o, p, a) (nI n, nI c, o, p, b, l) := ⟨n, c, o, p, a, b, l, rfl, rfl, h2, h7, hc, ok⟩
theorem i_up {k : Nat} {u : SX} {v : SY} (h : i_Rel k u v) : i_Rel (k + 4) u v := h
theorem fp_rel0 {k n : Nat} (h2 : 2 ≤ n) (h7 : n ≤ 7) : i_Rel k (nI n, 0, (fun _ => 0), (fun _ => 0), (fun _ => 0)) (nI n, 0, (fun _ => 0), (fun _ => 0), (fun _ => 0), (fun _ => 0)) :=
  fp_rel (c := 0) _ _ _ h2 h7 (by omega) (fun e he => absurd he (by omega))
theorem i_vc0 (k0 : Int32) : wpX_init (fun u => wpY_init (fun v => i_Rel 1 u v) k0) k0 := by
  by_cases h2 : 2 ≤ k0
  · refine br_t h2 ?_
    by_cases h7 : k0 ≤ 7
    · refine br_t h7 (br_t h2 (br_t h7 ?_))
      have h0 : ¬ k0 < 0 := Int32.not_lt.mpr (Int32.le_trans (by decide) h2)
      obtain ⟨j, hj, rfl⟩ := nI_of h0
      have a : 2 ≤ j := (nI_leI (a := 2) (by decide) hj).mp h2
      have b : j ≤ 7 := (nI_leI (b := 7) hj (by decide)).mp h7
      exact fp_rel0 a b
    · exact br_f h7 (br_t h2 (br_f h7 (fp_rel0 (n := 7) (by decide) (by decide))))
  · exact br_f h2 (br_f h2 (fp_rel0 (n := 2) (by decide) (by decide)))
theorem i_vc_vertices {k : Nat} {u : SX} {v : SY} (I : i_Rel k u v) (hk : k + 4 ≤ 2049) : wpX_vertices (fun r => wpY_vertices (fun r' => r' = r ∧ i_Rel (k + 4) u v) v) u := by
  obtain ⟨n, c, o, p, a, b, l, rfl, rfl, h2, h7, hc, ok⟩ := I
  exact ⟨rfl, fp_rel a b l h2 h7 hc ok⟩
theorem i_vc_edges {k : Nat} {u : SX} {v : SY} (I : i_Rel k u v) (hk : k + 4 ≤ 2049) : wpX_edges (fun r => wpY_edges (fun r' => r' = r ∧ i_Rel (k + 4) u v) v) u := by
  obtain ⟨n, c, o, p, a, b, l, rfl, rfl, h2, h7, hc, ok⟩ := I
  exact ⟨rfl, fp_rel a b l h2 h7 hc ok⟩
theorem i_vc_edge {k : Nat} {u : SX} {v : SY} (I : i_Rel k u v) (hk : k + 4 ≤ 2049) (v1 : Int32) (v2 : Int32) : wpX_edge (fun r u' => wpY_edge (fun r' v' => r' = r ∧ i_Rel (k + 4) u' v') v v1 v2) u v1 v2 := by
  obtain ⟨n, c, o, p, a, b, l, rfl, rfl, h2, h7, hc, ok⟩ := I
  rcases fp_pair n h7 v1 v2 with ⟨hX, hY, _⟩ | ⟨hX, hY, x, y, rfl, rfl, hx, hy, hxy⟩
  · unfold wpX_edge
    dsimp only
    refine hX _ _ _ _ _ ?_
    refine br_t rfl ?_
    unfold wpY_edge
    dsimp only
    refine hY _ _ _ _ _ _ ?_
    exact br_t rfl ⟨rfl, fp_rel a b l h2 h7 hc ok⟩
  · unfold wpX_edge
    dsimp only
    refine hX _ _ _ _ _ ?_
    refine br_f (by decide) ?_
    refine pk_lt c 16 (fun z => ?_) (fun z => ?_)
    · refine fx_se (by omega) ?_
      refine nm_r (nI_1 c) ?_
      unfold wpY_edge
      dsimp only
      refine hY _ _ _ _ _ _ ?_
      refine br_f (by decide) ?_
      refine pk_eq c 16 (fun z' => absurd z' (by omega)) (fun _ => ⟨pk_in c 17 (by omega), nm_r (congrArg (fun z => upd o z (nI x)) (nI_clamp (by omega))) ⟨pk_in c 17 (by omega), nm_r (congrArg (fun z => upd p z (nI y)) (nI_clamp (by omega))) (nm_r (nI_1 c) ⟨rfl, ?_⟩)⟩⟩)
      exact fp_rel a b l h2 h7 (by omega) (fp_Ok_up h7 ok hx hy hxy (fun i h1 h2 => by omega))
    · unfold wpY_edge
      dsimp only
      refine hY _ _ _ _ _ _ ?_
      refine br_f (by decide) ?_
      exact pk_eq c 16 (fun _ => ⟨rfl, fp_rel a b l h2 h7 hc ok⟩) (fun z' => absurd z' (by omega))
theorem i_vc_unedge {k : Nat} {u : SX} {v : SY} (I : i_Rel k u v) (hk : k + 4 ≤ 2049) : wpX_unedge (fun r u' => wpY_unedge (fun r' v' => r' = r ∧ i_Rel (k + 4) u' v') v) u := by
  obtain ⟨n, c, o, p, a, b, l, rfl, rfl, h2, h7, hc, ok⟩ := I
  cases c with
  | zero => exact pk_lt 0 0 (fun z => absurd z (by omega)) (fun _ => pk_eq 0 0 (fun _ => ⟨rfl, fp_rel a b l h2 h7 hc ok⟩) (fun z => absurd rfl z))
  | succ c =>
    refine pk_lt 0 (c + 1) (fun _ => nm_r (nI_pred c) ?_) (fun z => absurd z (by omega))
    exact pk_eq (c + 1) 0 (fun z => absurd z (by omega)) (fun _ => nm_r (nI_pred c) ⟨rfl, fp_rel a b l h2 h7 (by omega) (fp_Ok_le ok (by omega))⟩)
theorem i_vc_rejoin {k : Nat} {u : SX} {v : SY} (I : i_Rel k u v) (hk : k + 4 ≤ 2049) (v1 : Int32) (v2 : Int32) (v3 : Int32) : wpX_rejoin (fun r u' => wpY_rejoin (fun r' v' => r' = r ∧ i_Rel (k + 4) u' v') v v1 v2 v3) u v1 v2 v3 := by
  obtain ⟨n, c, o, p, a, b, l, rfl, rfl, h2, h7, hc, ok⟩ := I
  unfold wpX_rejoin
  dsimp only
  rcases fp_edg c hc v1 with ⟨hE, he⟩ | ⟨hE, e, he, rfl⟩
  · refine hE _ _ _ _ _ ?_
    refine br_t rfl ?_
    unfold wpY_rejoin
    dsimp only
    exact br_c (fun _ => ⟨rfl, fp_rel a b l h2 h7 hc ok⟩) (fun h0 => br_t (he.resolve_left h0) ⟨rfl, fp_rel a b l h2 h7 hc ok⟩)
  · have p0 : ¬ nI e < 0 := nI_pos (by omega)
    have p1 : ¬ nI c ≤ nI e := nI_ge he (by omega)
    rcases fp_pair n h7 v2 v3 with ⟨hX, hY, _⟩ | ⟨hX, hY, x, y, rfl, rfl, hx, hy, hxy⟩
    · refine hE _ _ _ _ _ ?_
      refine br_f (by decide) ?_
      refine hX _ _ _ _ _ ?_
      refine br_t rfl ?_
      unfold wpY_rejoin
      dsimp only
      refine br_f p0 (br_f p1 ?_)
      refine hY _ _ _ _ _ _ ?_
      exact br_t rfl ⟨rfl, fp_rel a b l h2 h7 hc ok⟩
    · refine hE _ _ _ _ _ ?_
      refine br_f (by decide) ?_
      refine hX _ _ _ _ _ ?_
      refine br_f (by decide) ?_
      refine fx_se (by omega) ?_
      unfold wpY_rejoin
      dsimp only
      refine br_f p0 (br_f p1 ?_)
      refine hY _ _ _ _ _ _ ?_
      refine br_f (by decide) ⟨pk_in e 17 (by omega), nm_r (congrArg (fun z => upd o z (nI x)) (nI_clamp (by omega))) ⟨pk_in e 17 (by omega), nm_r (congrArg (fun z => upd p z (nI y)) (nI_clamp (by omega))) ⟨rfl, ?_⟩⟩⟩
      exact fp_rel a b l h2 h7 hc (fp_Ok_up h7 ok hx hy hxy (fun i h1 h2 => h1))
end
section
/-! between -/
def fp_bt (o p : Nat → Int32) (v1 v2 : Int32) : Nat → Nat
  | 0 => 0
  | e + 1 => fp_bt o p v1 v2 e + (if (o e = v1 ∧ p e = v2) ∨ (o e = v2 ∧ p e = v1) then 1 else 0)
theorem fp_bt_t {o p : Nat → Int32} {v1 v2 : Int32} {e : Nat} (h : (o e = v1 ∧ p e = v2) ∨ (o e = v2 ∧ p e = v1)) : fp_bt o p v1 v2 (e + 1) = fp_bt o p v1 v2 e + 1 := by
  show fp_bt o p v1 v2 e + (if (o e = v1 ∧ p e = v2) ∨ (o e = v2 ∧ p e = v1) then 1 else 0) = _
  rw [if_pos h]
theorem fp_bt_f {o p : Nat → Int32} {v1 v2 : Int32} {e : Nat} (h : ¬ ((o e = v1 ∧ p e = v2) ∨ (o e = v2 ∧ p e = v1))) : fp_bt o p v1 v2 (e + 1) = fp_bt o p v1 v2 e := by
  show fp_bt o p v1 v2 e + (if (o e = v1 ∧ p e = v2) ∨ (o e = v2 ∧ p e = v1) then 1 else 0) = _
  rw [if_neg h]
  rfl
theorem fp_bt_0 {n c : Nat} {o p : Nat → Int32} {v1 v2 : Int32} (ok : fp_Ok n c o p) (h : ¬ fp_Pair n v1 v2) : ∀ e, e ≤ c → fp_bt o p v1 v2 e = 0 := by
  intro e
  induction e with
  | zero => intro _; rfl
  | succ e ih =>
    intro he
    obtain ⟨⟨o1, p1⟩, o2, p2, op⟩ := ok e (by omega)
    rw [fp_bt_f, ih (by omega)]
    intro z
    rcases z with ⟨z1, z2⟩ | ⟨z1, z2⟩
    · exact h ⟨fp_cl o e, fp_cl p e, by rw [← z1]; exact o1, by rw [← z2]; exact p1, o2, p2, op⟩
    · exact h ⟨fp_cl p e, fp_cl o e, by rw [← z2]; exact p1, by rw [← z1]; exact o1, p2, o2, fun z => op z.symm⟩
theorem fx_bt70 {post : Int32 → Prop} {J5 : Int32 → Int32 → Prop} {x1 x2 x3 x4 x5 z0 F E : Int32} {o p a : Nat → Int32} (h0 : x5 = 0 → z0 = 0 → J5 x3 (x4 + 1)) (h1 : ¬ (x5 = 0 ∧ z0 = 0) → J5 (x3 + 1) (x4 + 1)) : wX_between_70 post J5 x1 x2 x3 x4 x5 z0 F E o p a :=
  br_c (fun q => br_c (fun q2 => nm_e (h0 q q2)) (fun q2 => nm_e (nm_e (h1 (fun z => q2 z.2))))) (fun q => nm_e (nm_e (h1 (fun z => q z.1))))
theorem fx_bt41 {post : Int32 → Prop} {J5 : Int32 → Int32 → Prop} {x1 x2 x3 z0 F E : Int32} {o p a : Nat → Int32} {e : Nat} (he : e < 17) (h0 : z0 = 0 → ¬ (o e = x2 ∧ p e = x1) → J5 x3 (nI e + 1)) (h1 : (¬ z0 = 0 ∨ (o e = x2 ∧ p e = x1)) → J5 (x3 + 1) (nI e + 1)) : wX_between_41 post J5 x1 x2 x3 (nI e) z0 F E o p a := by
  refine ⟨pk_in e 17 he, ?_⟩
  rw [nI_clamp (by omega)]
  refine br_c (fun q => ⟨pk_in e 17 he, br_c (fun q2 => ?_) (fun q2 => ?_)⟩) (fun q => ?_)
  · exact fx_bt70 (fun _ z => absurd z (by decide)) (fun _ => h1 (Or.inr ⟨q, q2⟩))
  · unfold wX_between_69
    exact fx_bt70 (fun z _ => h0 z (fun y => q2 y.2)) (fun z => h1 (Or.inl (fun y => z ⟨y, rfl⟩)))
  · unfold wX_between_69
    exact fx_bt70 (fun z _ => h0 z (fun y => q y.1)) (fun z => h1 (Or.inl (fun y => z ⟨y, rfl⟩)))
theorem fx_bt5 {post : Int32 → Prop} {F v1 v2 : Int32} {o p a : Nat → Int32} {c : Nat} (hc : c ≤ 16) (h : post (nI (fp_bt o p v1 v2 c))) : ∀ d e, e + d = c → wX_between_5 post v1 v2 F (nI c) o p a (d + 1) (nI (fp_bt o p v1 v2 e)) (nI e) := by
  intro d
  induction d with
  | zero =>
    intro v hv
    have e : v = c := by omega
    subst e
    exact pk_le v v (fun _ => h) (fun z => absurd z (by omega))
  | succ d ih =>
    intro e he
    have h3 := ih (e + 1) (by omega)
    have k0 : ¬ ((o e = v1 ∧ p e = v2) ∨ (o e = v2 ∧ p e = v1)) → wX_between_5 post v1 v2 F (nI c) o p a (d + 1) (nI (fp_bt o p v1 v2 e)) (nI e + 1) := by
      intro z
      rw [fp_bt_f z] at h3
      rw [nI_1]
      exact h3
    have k1 : ((o e = v1 ∧ p e = v2) ∨ (o e = v2 ∧ p e = v1)) → wX_between_5 post v1 v2 F (nI c) o p a (d + 1) (nI (fp_bt o p v1 v2 e) + 1) (nI e + 1) := by
      intro z
      rw [fp_bt_t z] at h3
      rw [nI_1, nI_1]
      exact h3
    refine pk_le c e (fun z => absurd z (by omega)) (fun _ => ⟨pk_in e 17 (by omega), ?_⟩)
    rw [nI_clamp (by omega)]
    refine br_c (fun q => ⟨pk_in e 17 (by omega), br_c (fun q2 => ?_) (fun q2 => ?_)⟩) (fun q => ?_)
    · exact fx_bt41 (by omega) (fun z _ => absurd z (by decide)) (fun _ => k1 (Or.inl ⟨q, q2⟩))
    · unfold wX_between_40
      exact fx_bt41 (by omega) (fun _ z => k0 (fun y => y.elim (fun y => q2 y.2) z)) (fun z => k1 (Or.inr (z.resolve_left (fun y => y rfl))))
    · unfold wX_between_40
      exact fx_bt41 (by omega) (fun _ z => k0 (fun y => y.elim (fun y => q y.1) z)) (fun z => k1 (Or.inr (z.resolve_left (fun y => y rfl))))
theorem fy_bt72 {post : Int32 → Prop} {J5 : Int32 → Int32 → Prop} {x1 x2 x3 x4 z0 F E : Int32} {o p b l : Nat → Int32} (h0 : z0 = 0 → J5 x3 (x4 + 1)) (h1 : ¬ z0 = 0 → J5 (x3 + 1) (x4 + 1)) : wY_between_72 post J5 x1 x2 x3 x4 z0 F E o p b l :=
  br_c (fun q => nm_e (h0 q)) (fun q => nm_e (nm_e (h1 q)))
theorem fy_bt45 {post : Int32 → Prop} {J5 : Int32 → Int32 → Prop} {x1 x2 x3 F E : Int32} {o p b l : Nat → Int32} {e : Nat} (he : e < 17) (h0 : ¬ (o e = x2 ∧ p e = x1) → J5 x3 (nI e + 1)) (h1 : (o e = x2 ∧ p e = x1) → J5 (x3 + 1) (nI e + 1)) : wY_between_45 post J5 x1 x2 x3 (nI e) F E o p b l := by
  refine ⟨pk_in e 17 he, ?_⟩
  rw [nI_clamp (by omega)]
  refine br_c (fun q => ⟨pk_in e 17 he, br_c (fun q2 => ?_) (fun q2 => ?_)⟩) (fun q => ?_)
  · unfold wY_between_67
    exact fy_bt72 (fun z => absurd z (by decide)) (fun _ => h1 ⟨q, q2⟩)
  · unfold wY_between_71
    exact fy_bt72 (fun _ => h0 (fun y => q2 y.2)) (fun z => absurd rfl z)
  · unfold wY_between_71
    exact fy_bt72 (fun _ => h0 (fun y => q y.1)) (fun z => absurd rfl z)
theorem fy_bt5 {post : Int32 → Prop} {n : Nat} {v1 v2 : Int32} {o p b l : Nat → Int32} {c : Nat} (hY : fp_YP n v1 v2 1) (hc : c ≤ 16) (h : post (nI (fp_bt o p v1 v2 c))) : ∀ d e, e + d = c → wY_between_5 post v1 v2 (nI n) (nI c) o p b l (d + 1) (nI (fp_bt o p v1 v2 e)) (nI e) := by
  intro d
  induction d with
  | zero =>
    intro v hv
    have e : v = c := by omega
    subst e
    exact pk_le v v (fun _ => h) (fun z => absurd z (by omega))
  | succ d ih =>
    intro e he
    have h3 := ih (e + 1) (by omega)
    have k0 : ¬ ((o e = v1 ∧ p e = v2) ∨ (o e = v2 ∧ p e = v1)) → wY_between_5 post v1 v2 (nI n) (nI c) o p b l (d + 1) (nI (fp_bt o p v1 v2 e)) (nI e + 1) := by
      intro z
      rw [fp_bt_f z] at h3
      rw [nI_1]
      exact h3
    have k1 : ((o e = v1 ∧ p e = v2) ∨ (o e = v2 ∧ p e = v1)) → wY_between_5 post v1 v2 (nI n) (nI c) o p b l (d + 1) (nI (fp_bt o p v1 v2 e) + 1) (nI e + 1) := by
      intro z
      rw [fp_bt_t z] at h3
      rw [nI_1, nI_1]
      exact h3
    refine pk_le c e (fun z => absurd z (by omega)) (fun _ => ?_)
    refine hY _ _ _ _ _ _ ?_
    refine br_f (by decide) ⟨pk_in e 17 (by omega), ?_⟩
    rw [nI_clamp (by omega)]
    refine br_c (fun q => ⟨pk_in e 17 (by omega), br_c (fun q2 => ?_) (fun q2 => ?_)⟩) (fun q => ?_)
    · unfold wY_between_67
      exact fy_bt72 (fun z => absurd z (by decide)) (fun _ => k1 (Or.inl ⟨q, q2⟩))
    · exact fy_bt45 (by omega) (fun z => k0 (fun y => y.elim (fun y => q2 y.2) z)) (fun z => k1 (Or.inr z))
    · exact fy_bt45 (by omega) (fun z => k0 (fun y => y.elim (fun y => q y.1) z)) (fun z => k1 (Or.inr z))
theorem i_vc_between {k : Nat} {u : SX} {v : SY} (I : i_Rel k u v) (hk : k + 4 ≤ 2049) (v1 : Int32) (v2 : Int32) : wpX_between (fun r => wpY_between (fun r' => r' = r ∧ i_Rel (k + 4) u v) v v1 v2) u v1 v2 := by
  obtain ⟨n, c, o, p, a, b, l, rfl, rfl, h2, h7, hc, ok⟩ := I
  refine ⟨c + 1, fx_bt5 hc ?_ c 0 (by omega)⟩
  rcases fp_pair n h7 v1 v2 with ⟨_, hY, hP⟩ | ⟨_, hY, hP⟩
  · rw [fp_bt_0 ok hP c (Nat.le_refl c)]
    refine ⟨1, ?_⟩
    refine br_c (fun _ => ⟨rfl, fp_rel a b l h2 h7 hc ok⟩) (fun _ => ?_)
    refine hY _ _ _ _ _ _ ?_
    exact br_t rfl ⟨rfl, fp_rel a b l h2 h7 hc ok⟩
  · exact ⟨c + 1, fy_bt5 hY hc ⟨rfl, fp_rel a b l h2 h7 hc ok⟩ c 0 (by omega)⟩
/-! hold -/
theorem fp_MH_17 {n k : Nat} {fr to : Nat → Nat} {left : Int32} {c : Nat} (hc : c ≤ 17) : fp_MH n k fr to left c < 2 ^ 31 := by
  have := fp_MH_c (n := n) (k := k) (fr := fr) (to := to) (left := left) (c := c)
  omega
theorem fy_hold {post : Int32 → SY → Prop} {n k c : Nat} {o p b l : Nat → Int32} (h2 : 2 ≤ n) (h7 : n ≤ 7) (hc : c ≤ 16) (hk : k ≤ 16) (ok : fp_Ok n c o p) (hN : fp_YN (nI k) 1) (h : ∀ b' l', post (nI (fp_MH n k (fp_cl o) (fp_cl p) (-1) c)) (nI n, nI c, o, p, b', l')) : wpY_hold post (nI n, nI c, o, p, b, l) (nI k) := by
  unfold wpY_hold
  dsimp only
  refine hN _ _ _ _ _ _ _ ?_
  refine br_f (by decide) ?_
  refine fy_fc h2 h7 (by omega) ok (fun b' l' hl => ?_)
  exact fy_bd h2 h7 (by omega) hk hl (h b' l')
theorem i_vc_hold {k : Nat} {u : SX} {v : SY} (I : i_Rel k u v) (hk : k + 4 ≤ 2049) (v1 : Int32) : wpX_hold (fun r u' => wpY_hold (fun r' v' => r' = r ∧ i_Rel (k + 4) u' v') v v1) u v1 := by
  obtain ⟨n, c, o, p, a, b, l, rfl, rfl, h2, h7, hc, ok⟩ := I
  unfold wpX_hold
  dsimp only
  rcases fp_num v1 with ⟨hX, hY⟩ | ⟨hX, hY, j, hj, rfl⟩
  · refine hX _ _ _ _ _ _ ?_
    refine br_t rfl ?_
    unfold wpY_hold
    dsimp only
    refine hY _ _ _ _ _ _ _ ?_
    exact br_t rfl ⟨rfl, fp_rel a b l h2 h7 hc ok⟩
  · refine hX _ _ _ _ _ _ ?_
    refine br_f (by decide) ?_
    refine fx_mh h2 h7 (by omega) hj ok (fun a' => ?_)
    exact fy_hold h2 h7 hc hj ok hY (fun b' l' => ⟨rfl, fp_rel a' b' l' h2 h7 hc ok⟩)
/-! needed -/
def fp_nd (H : Nat → Nat) (c : Nat) : Nat → Nat → Nat
  | 0, k => k
  | d + 1, k => if c ≤ H k then k else fp_nd H c d (k + 1)
theorem fx_nd2 {post : Int32 → SX → Prop} {n c : Nat} {o p : Nat → Int32} (h2 : 2 ≤ n) (h7 : n ≤ 7) (hc : c ≤ 16) (ok : fp_Ok n c o p) : ∀ d j a, j + d = 16 → (∀ a', post (nI (fp_nd (fun k => fp_MH n k (fp_cl o) (fp_cl p) (-1) c) c d j)) (nI n, nI c, o, p, a')) → wX_needed_2 post (d + 1) (nI j) (nI n) (nI c) o p a := by
  intro d
  induction d with
  | zero =>
    intro j a hj h
    have e : j = 16 := by omega
    subst e
    exact pk_le 16 16 (fun _ => h a) (fun z => absurd z (by omega))
  | succ d ih =>
    intro j a hj h
    have m1 := fp_MH_c (n := n) (k := j) (fr := fp_cl o) (to := fp_cl p) (left := -1) (c := c)
    refine pk_le 16 j (fun z => absurd z (by omega)) (fun _ => ?_)
    refine fx_mh h2 h7 (by omega) (by omega) ok (fun a' => ?_)
    refine pk_eq (fp_MH n j (fp_cl o) (fp_cl p) (-1) c) c (fun z => ?_) (fun z => nm_r (nI_1 j) (ih (j + 1) a' (by omega) (fun a2 => ?_)))
    · have h3 := h a'
      have e : fp_nd (fun k => fp_MH n k (fp_cl o) (fp_cl p) (-1) c) c (d + 1) j = j := if_pos (Nat.le_of_eq z.symm)
      rw [e] at h3
      exact h3
    · have h3 := h a2
      have e : fp_nd (fun k => fp_MH n k (fp_cl o) (fp_cl p) (-1) c) c (d + 1) j = fp_nd (fun k => fp_MH n k (fp_cl o) (fp_cl p) (-1) c) c d (j + 1) := if_neg (by show ¬ c ≤ fp_MH n j (fp_cl o) (fp_cl p) (-1) c; omega)
      rw [e] at h3
      exact h3
theorem fy_nd11 {post : Int32 → SY → Prop} {n c : Nat} {o p b l : Nat → Int32} (h2 : 2 ≤ n) (h7 : n ≤ 7) (hc : c ≤ 16) (hl : ∀ m, m < 8 → l m = nI (fp_LS n (fp_cl o) (fp_cl p) (-1) c m)) : ∀ d j, j + d = 16 → post (nI (fp_nd (fun k => fp_MH n k (fp_cl o) (fp_cl p) (-1) c) c d j)) (nI n, nI c, o, p, b, l) → wY_needed_11 post (nI n) (nI c) o p b l (d + 1) (nI j) := by
  intro d
  induction d with
  | zero =>
    intro j hj h
    have e : j = 16 := by omega
    subst e
    exact pk_le 16 16 (fun _ => h) (fun z => absurd z (by omega))
  | succ d ih =>
    intro j hj h
    have m1 := fp_MH_c (n := n) (k := j) (fr := fp_cl o) (to := fp_cl p) (left := -1) (c := c)
    refine pk_le 16 j (fun z => absurd z (by omega)) (fun _ => ?_)
    refine fy_bd h2 h7 (by omega) (by omega) hl ?_
    refine pk_le c (fp_MH n j (fp_cl o) (fp_cl p) (-1) c) (fun z => ?_) (fun z => nm_r (nI_1 j) (ih (j + 1) (by omega) ?_))
    · have e : fp_nd (fun k => fp_MH n k (fp_cl o) (fp_cl p) (-1) c) c (d + 1) j = j := if_pos z
      rw [e] at h
      exact h
    · have e : fp_nd (fun k => fp_MH n k (fp_cl o) (fp_cl p) (-1) c) c (d + 1) j = fp_nd (fun k => fp_MH n k (fp_cl o) (fp_cl p) (-1) c) c d (j + 1) := if_neg (by show ¬ c ≤ fp_MH n j (fp_cl o) (fp_cl p) (-1) c; omega)
      rw [e] at h
      exact h
theorem i_vc_needed {k : Nat} {u : SX} {v : SY} (I : i_Rel k u v) (hk : k + 4 ≤ 2049) : wpX_needed (fun r u' => wpY_needed (fun r' v' => r' = r ∧ i_Rel (k + 4) u' v') v) u := by
  obtain ⟨n, c, o, p, a, b, l, rfl, rfl, h2, h7, hc, ok⟩ := I
  refine ⟨16 + 1, fx_nd2 h2 h7 hc ok 16 0 a rfl (fun a' => ?_)⟩
  unfold wpY_needed
  dsimp only
  refine fy_fc h2 h7 (by omega) ok (fun b' l' hl => ?_)
  exact ⟨16 + 1, fy_nd11 h2 h7 hc hl 16 0 rfl ⟨rfl, fp_rel a' b' l' h2 h7 hc ok⟩⟩
/-! trees -/
def fp_tx (H : Nat → Nat) (n : Nat) : Nat → Nat
  | 0 => 0
  | k + 1 => if H (k + 1) = (k + 1) * (n - 1) then k + 1 else fp_tx H n k
def fp_ty (H : Nat → Nat) (n : Nat) : Nat → Nat → Nat
  | 0, k => k
  | d + 1, k => if H (k + 1) = (k + 1) * (n - 1) then fp_ty H n d (k + 1) else k
theorem fp_tx_skip {H : Nat → Nat} {n k : Nat} : ∀ d, (∀ j, k < j → j ≤ k + d → ¬ H j = j * (n - 1)) → fp_tx H n (k + d) = fp_tx H n k := by
  intro d
  induction d with
  | zero => intro _; rfl
  | succ d ih =>
    intro h
    have e : fp_tx H n (k + d + 1) = fp_tx H n (k + d) := if_neg (h (k + d + 1) (by omega) (by omega))
    show fp_tx H n (k + d + 1) = _
    rw [e, ih (fun j h1 h2 => h j h1 (by omega))]
theorem fp_tx_at {H : Nat → Nat} {n k : Nat} (h : H k = k * (n - 1)) : fp_tx H n k = k := by
  cases k with
  | zero => rfl
  | succ k => exact if_pos h
theorem fp_txy {H : Nat → Nat} {n c : Nat} (hm : ∀ k j, H k = k * (n - 1) → j ≤ k → H j = j * (n - 1)) (hb : ∀ k, H k = k * (n - 1) → k ≤ c) (hc : c ≤ 16) : ∀ d k, k + d = 16 → H k = k * (n - 1) → fp_ty H n d k = fp_tx H n c := by
  intro d
  induction d with
  | zero =>
    intro k hk h
    have h1 := hb k h
    have e : c = k := by omega
    rw [e, fp_tx_at h]
    rfl
  | succ d ih =>
    intro k hk h
    show (if H (k + 1) = (k + 1) * (n - 1) then fp_ty H n d (k + 1) else k) = _
    by_cases z : H (k + 1) = (k + 1) * (n - 1)
    · rw [if_pos z]
      exact ih (k + 1) (by omega) z
    · rw [if_neg z]
      have h1 := hb k h
      have e := fp_tx_skip (H := H) (n := n) (k := k) (c - k) (fun j h1 h2 y => z (hm j (k + 1) y h1))
      rw [show k + (c - k) = c from by omega, fp_tx_at h] at e
      exact e.symm
theorem fp_mul7 {k n : Nat} (hk : k ≤ 16) (h7 : n ≤ 7) : k * (n - 1) ≤ 16 * 7 := Nat.mul_le_mul hk (by omega)
theorem fx_tr5 {post : Int32 → SX → Prop} {n c : Nat} {o p : Nat → Int32} (h2 : 2 ≤ n) (h7 : n ≤ 7) (hc : c ≤ 16) (ok : fp_Ok n c o p) : ∀ j a, j ≤ 16 → (∀ a', post (nI (fp_tx (fun k => fp_MH n k (fp_cl o) (fp_cl p) (-1) c) n j)) (nI n, nI c, o, p, a')) → wX_trees_5 post (j + 1) (nI j) (nI n) (nI c) o p a := by
  intro j
  induction j with
  | zero =>
    intro a hj h
    exact pk_le 0 0 (fun _ => h a) (fun z => absurd z (by omega))
  | succ j ih =>
    intro a hj h
    have m1 := fp_MH_c (n := n) (k := j + 1) (fr := fp_cl o) (to := fp_cl p) (left := -1) (c := c)
    have m2 := fp_mul7 (k := j + 1) (n := n) hj h7
    refine pk_le (j + 1) 0 (fun z => absurd z (by omega)) (fun _ => ?_)
    refine fx_mh h2 h7 (by omega) (by omega) ok (fun a' => ?_)
    have e1 : nI (j + 1) * (nI n - 1) = nI ((j + 1) * (n - 1)) := by
      rw [fp_n1, pk_sub (by omega), pk_mul]
    refine pk_eq (fp_MH n (j + 1) (fp_cl o) (fp_cl p) (-1) c) ((j + 1) * (n - 1)) (fun z => ?_) (fun z => nm_r (pk_m1 j) (ih a' (by omega) (fun a2 => ?_))) rfl e1 (by omega) (by omega)
    · have h3 := h a'
      have e : fp_tx (fun k => fp_MH n k (fp_cl o) (fp_cl p) (-1) c) n (j + 1) = j + 1 := if_pos z
      rw [e] at h3
      exact h3
    · have h3 := h a2
      have e : fp_tx (fun k => fp_MH n k (fp_cl o) (fp_cl p) (-1) c) n (j + 1) = fp_tx (fun k => fp_MH n k (fp_cl o) (fp_cl p) (-1) c) n j := if_neg z
      rw [e] at h3
      exact h3
theorem fy_tr11 {post : Int32 → SY → Prop} {n c : Nat} {o p b l : Nat → Int32} (h2 : 2 ≤ n) (h7 : n ≤ 7) (hc : c ≤ 16) (hl : ∀ m, m < 8 → l m = nI (fp_LS n (fp_cl o) (fp_cl p) (-1) c m)) : ∀ d j, j + d = 16 → post (nI (fp_ty (fun k => fp_MH n k (fp_cl o) (fp_cl p) (-1) c) n d j)) (nI n, nI c, o, p, b, l) → wY_trees_11 post (nI n) (nI c) o p b l (d + 1) (nI j) := by
  intro d
  induction d with
  | zero =>
    intro j hj h
    exact pk_le 16 j (fun _ => h) (fun z => absurd z (by omega))
  | succ d ih =>
    intro j hj h
    have m1 := fp_MH_c (n := n) (k := j + 1) (fr := fp_cl o) (to := fp_cl p) (left := -1) (c := c)
    have m2 := fp_mul7 (k := j + 1) (n := n) (by omega) h7
    have e1 : nI (j + 1) * (nI n - 1) = nI ((j + 1) * (n - 1)) := by
      rw [fp_n1, pk_sub (by omega), pk_mul]
    refine pk_le 16 j (fun z => absurd z (by omega)) (fun _ => ?_)
    rw [nI_1 j]
    refine fy_bd h2 h7 (by omega) (by omega) hl ?_
    refine pk_eq (fp_MH n (j + 1) (fp_cl o) (fp_cl p) (-1) c) ((j + 1) * (n - 1)) (fun z => nm_e (ih (j + 1) (by omega) ?_)) (fun z => ?_) rfl e1 (by omega) (by omega)
    · have e : fp_ty (fun k => fp_MH n k (fp_cl o) (fp_cl p) (-1) c) n (d + 1) j = fp_ty (fun k => fp_MH n k (fp_cl o) (fp_cl p) (-1) c) n d (j + 1) := if_pos z
      rw [e] at h
      exact h
    · have e : fp_ty (fun k => fp_MH n k (fp_cl o) (fp_cl p) (-1) c) n (d + 1) j = j := if_neg z
      rw [e] at h
      exact h
theorem i_vc_trees {k : Nat} {u : SX} {v : SY} (I : i_Rel k u v) (hk : k + 4 ≤ 2049) : wpX_trees (fun r u' => wpY_trees (fun r' v' => r' = r ∧ i_Rel (k + 4) u' v') v) u := by
  obtain ⟨n, c, o, p, a, b, l, rfl, rfl, h2, h7, hc, ok⟩ := I
  refine ⟨c + 1, fx_tr5 h2 h7 hc ok c a hc (fun a' => ?_)⟩
  unfold wpY_trees
  dsimp only
  refine fy_fc h2 h7 (by omega) ok (fun b' l' hl => ?_)
  refine ⟨16 + 1, fy_tr11 h2 h7 hc hl 16 0 rfl ⟨?_, fp_rel a' b' l' h2 h7 hc ok⟩⟩
  refine congrArg nI (fp_txy (fun k j h hj => fp_tr_mono h2 h7 h hj) (fun k h => fp_tr_c h2 h) hc 16 0 rfl ?_)
  have m := fp_MH_1 (n := n) (k := 0) h2 h7 (fr := fp_cl o) (to := fp_cl p) (left := -1) (c := c)
  show fp_MH n 0 (fp_cl o) (fp_cl p) (-1) c = 0 * (n - 1)
  omega
end
section
/-! isFirm and firm: in lockstep -/
def fp_Two (n c : Nat) (o p o' p' : Nat → Int32) (r : Int32) (wx : (Int32 → SX → Prop) → SX → Prop) (wy : (Int32 → SY → Prop) → SY → Prop) : Prop :=
  (∀ (post : Int32 → SX → Prop) (a : Nat → Int32), (∀ a', post r (nI n, nI c, o', p', a')) → wx post (nI n, nI c, o, p, a)) ∧ (∀ (post : Int32 → SY → Prop) (b l : Nat → Int32), (∀ b' l', post r (nI n, nI c, o', p', b', l')) → wy post (nI n, nI c, o, p, b, l))
theorem fp_fir {n c : Nat} {o p : Nat → Int32} (h2 : 2 ≤ n) (h7 : n ≤ 7) (hc : c ≤ 16) (ok : fp_Ok n c o p) (v1 v2 : Int32) : ∃ r, fp_Two n c o p o p r (fun post u => wpX_isFirm post u v1 v2) (fun post u => wpY_isFirm post u v1 v2) := by
  rcases fp_edg c hc v1 with ⟨hE, he⟩ | ⟨hE, e, he, rfl⟩
  · refine ⟨0, fun post a h => ?_, fun post b l h => ?_⟩
    · show wpX_isFirm post _ v1 v2
      unfold wpX_isFirm
      dsimp only
      refine hE _ _ _ _ _ ?_
      exact br_t rfl (h a)
    · exact br_c (fun _ => h b l) (fun h0 => br_t (he.resolve_left h0) (h b l))
  · have p0 : ¬ nI e < 0 := nI_pos (by omega)
    have p1 : ¬ nI c ≤ nI e := nI_ge he (by omega)
    rcases fp_num v2 with ⟨hX, hY⟩ | ⟨hX, hY, j, hj, rfl⟩
    · refine ⟨0, fun post a h => ?_, fun post b l h => ?_⟩
      · show wpX_isFirm post _ (nI e) v2
        unfold wpX_isFirm
        dsimp only
        refine hE _ _ _ _ _ ?_
        refine br_f (by decide) ?_
        refine hX _ _ _ _ _ _ ?_
        exact br_t rfl (h a)
      · refine br_f p0 (br_f p1 ?_)
        refine hY _ _ _ _ _ _ _ ?_
        exact br_t rfl (h b l)
    · have m1 := fp_MH_17 (n := n) (k := j) (fr := fp_cl o) (to := fp_cl p) (left := -1) (c := c) (by omega)
      have m2 := fp_MH_17 (n := n) (k := j) (fr := fp_cl o) (to := fp_cl p) (left := nI e) (c := c) (by omega)
      have hr : ∃ r : Int32, ∀ P : Int32 → Prop, P r → ((nI (fp_MH n j (fp_cl o) (fp_cl p) (-1) c) ≤ nI (fp_MH n j (fp_cl o) (fp_cl p) (nI e) c) → P 0) ∧ (¬ nI (fp_MH n j (fp_cl o) (fp_cl p) (-1) c) ≤ nI (fp_MH n j (fp_cl o) (fp_cl p) (nI e) c) → P 1)) := by
        by_cases z : nI (fp_MH n j (fp_cl o) (fp_cl p) (-1) c) ≤ nI (fp_MH n j (fp_cl o) (fp_cl p) (nI e) c)
        · exact ⟨0, fun P h => br_t z h⟩
        · exact ⟨1, fun P h => br_f z h⟩
      obtain ⟨r, hr⟩ := hr
      refine ⟨r, fun post a h => ?_, fun post b l h => ?_⟩
      · show wpX_isFirm post _ (nI e) (nI j)
        unfold wpX_isFirm
        dsimp only
        refine hE _ _ _ _ _ ?_
        refine br_f (by decide) ?_
        refine hX _ _ _ _ _ _ ?_
        refine br_f (by decide) ?_
        refine fx_mh h2 h7 (by omega) hj ok (fun a' => ?_)
        dsimp only
        refine fx_mh h2 h7 (by omega) hj ok (fun a2 => ?_)
        exact hr (fun r => post r (nI n, nI c, o, p, a2)) (h a2)
      · refine br_f p0 (br_f p1 ?_)
        refine hY _ _ _ _ _ _ _ ?_
        refine br_f (by decide) ?_
        refine fy_hold h2 h7 hc hj ok hY (fun b' l' => ?_)
        dsimp only
        refine fy_fc h2 h7 (by omega) ok (fun b2 l2 hl => ?_)
        dsimp only
        refine fy_bd h2 h7 (by omega) hj hl ?_
        exact hr (fun r => post r (nI n, nI c, o, p, b2, l2)) (h b2 l2)
theorem i_vc_isFirm {k : Nat} {u : SX} {v : SY} (I : i_Rel k u v) (hk : k + 4 ≤ 2049) (v1 : Int32) (v2 : Int32) : wpX_isFirm (fun r u' => wpY_isFirm (fun r' v' => r' = r ∧ i_Rel (k + 4) u' v') v v1 v2) u v1 v2 := by
  obtain ⟨n, c, o, p, a, b, l, rfl, rfl, h2, h7, hc, ok⟩ := I
  obtain ⟨r, hX, hY⟩ := fp_fir h2 h7 hc ok v1 v2
  exact hX _ a (fun a' => hY _ b l (fun b' l' => ⟨rfl, fp_rel a' b' l' h2 h7 hc ok⟩))
theorem fp_firm14 {n c : Nat} {o p : Nat → Int32} (h2 : 2 ≤ n) (h7 : n ≤ 7) (hc : c ≤ 16) (ok : fp_Ok n c o p) (v1 : Int32) : ∀ d e, e + d = c → ∀ x2 : Int32, ∃ r : Int32, (∀ (post : Int32 → SX → Prop) (a : Nat → Int32), (∀ a', post r (nI n, nI c, o, p, a')) → wX_firm_14 post v1 (d + 1) x2 (nI e) (nI n) (nI c) o p a) ∧ (∀ (post : Int32 → SY → Prop) (b l : Nat → Int32), (∀ b' l', post r (nI n, nI c, o, p, b', l')) → wY_firm_14 post v1 (d + 1) x2 (nI e) (nI n) (nI c) o p b l) := by
  intro d
  induction d with
  | zero =>
    intro e he x2
    exact ⟨x2, fun post a h => pk_le c e (fun _ => h a) (fun z => absurd z (by omega)), fun post b l h => pk_le c e (fun _ => h b l) (fun z => absurd z (by omega))⟩
  | succ d ih =>
    intro e he x2
    obtain ⟨r1, hX, hY⟩ := fp_fir h2 h7 hc ok (nI e) v1
    by_cases z : r1 = 0
    · obtain ⟨r, iX, iY⟩ := ih (e + 1) (by omega) x2
      refine ⟨r, fun post a h => pk_le c e (fun z => absurd z (by omega)) (fun _ => ?_), fun post b l h => pk_le c e (fun z => absurd z (by omega)) (fun _ => ?_)⟩
      · refine hX _ a (fun a' => ?_)
        exact br_t z (nm_r (nI_1 e) (iX post a' h))
      · refine hY _ b l (fun b' l' => ?_)
        exact br_t z (nm_r (nI_1 e) (iY post b' l' h))
    · obtain ⟨r, iX, iY⟩ := ih (e + 1) (by omega) (x2 + 1)
      refine ⟨r, fun post a h => pk_le c e (fun z => absurd z (by omega)) (fun _ => ?_), fun post b l h => pk_le c e (fun z => absurd z (by omega)) (fun _ => ?_)⟩
      · refine hX _ a (fun a' => ?_)
        exact br_f z (nm_e (nm_r (nI_1 e) (iX post a' h)))
      · refine hY _ b l (fun b' l' => ?_)
        exact br_f z (nm_e (nm_r (nI_1 e) (iY post b' l' h)))
theorem i_vc_firm {k : Nat} {u : SX} {v : SY} (I : i_Rel k u v) (hk : k + 4 ≤ 2049) (v1 : Int32) : wpX_firm (fun r u' => wpY_firm (fun r' v' => r' = r ∧ i_Rel (k + 4) u' v') v v1) u v1 := by
  obtain ⟨n, c, o, p, a, b, l, rfl, rfl, h2, h7, hc, ok⟩ := I
  unfold wpX_firm
  dsimp only
  rcases fp_num v1 with ⟨hX, hY⟩ | ⟨hX, hY, j, hj, rfl⟩
  · refine hX _ _ _ _ _ _ ?_
    refine br_t rfl ?_
    unfold wpY_firm
    dsimp only
    refine hY _ _ _ _ _ _ _ ?_
    exact br_t rfl ⟨rfl, fp_rel a b l h2 h7 hc ok⟩
  · obtain ⟨r, iX, iY⟩ := fp_firm14 h2 h7 hc ok (nI j) c 0 (by omega) 0
    refine hX _ _ _ _ _ _ ?_
    refine br_f (by decide) ⟨c + 1, iX _ a (fun a' => ?_)⟩
    unfold wpY_firm
    dsimp only
    refine hY _ _ _ _ _ _ _ ?_
    exact br_f (by decide) ⟨c + 1, iY _ b l (fun b' l' => ⟨rfl, fp_rel a' b' l' h2 h7 hc ok⟩)⟩
/-! welcome and room: in lockstep -/
theorem fp_cu_c {g fr to fr' to' : Nat → Nat} {left : Int32} : ∀ c, (∀ e, e < c → fr' e = fr e ∧ to' e = to e) → fp_cu g fr' to' left c = fp_cu g fr to left c := by
  intro c
  induction c with
  | zero => intro _; rfl
  | succ c ih =>
    intro h
    have ⟨h1, h2⟩ := h c (by omega)
    show fp_cu g fr' to' left c + (if nI c = left then 0 else if g (fr' c) = g (to' c) then 0 else 1) = fp_cu g fr to left c + (if nI c = left then 0 else if g (fr c) = g (to c) then 0 else 1)
    rw [h1, h2, ih (fun e he => h e (by omega))]
theorem fp_MH_cg {n k c : Nat} {fr to fr' to' : Nat → Nat} {left : Int32} (h : ∀ e, e < c → fr' e = fr e ∧ to' e = to e) : fp_MH n k fr' to' left c = fp_MH n k fr to left c := by
  apply fp_eq_of_le
  intro x
  rw [fp_MH_le, fp_MH_le]
  constructor
  · intro ⟨h1, h2⟩
    exact ⟨h1, fun t ht => by rw [← fp_cu_c c h]; exact h2 t ht⟩
  · intro ⟨h1, h2⟩
    exact ⟨h1, fun t ht => by rw [fp_cu_c c h]; exact h2 t ht⟩
theorem fp_wel {n c : Nat} {o p : Nat → Int32} (h2 : 2 ≤ n) (h7 : n ≤ 7) (hc : c ≤ 16) (ok : fp_Ok n c o p) (v1 v2 v3 : Int32) : ∃ (r : Int32) (o' p' : Nat → Int32), fp_Ok n c o' p' ∧ fp_Two n c o p o' p' r (fun post u => wpX_welcome post u v1 v2 v3) (fun post u => wpY_welcome post u v1 v2 v3) := by
  rcases fp_pair n h7 v1 v2 with ⟨hX, hY, _⟩ | ⟨hX, hY, x, y, rfl, rfl, hx, hy, hxy⟩
  · refine ⟨0, o, p, ok, fun post a h => ?_, fun post b l h => ?_⟩
    · show wpX_welcome post _ v1 v2 v3
      unfold wpX_welcome
      dsimp only
      refine hX _ _ _ _ _ ?_
      exact br_t rfl (h a)
    · show wpY_welcome post _ v1 v2 v3
      unfold wpY_welcome
      dsimp only
      refine hY _ _ _ _ _ _ ?_
      exact br_t rfl (h b l)
  · rcases fp_num v3 with ⟨nX, nY⟩ | ⟨nX, nY, j, hj, rfl⟩
    · refine ⟨0, o, p, ok, fun post a h => ?_, fun post b l h => ?_⟩
      · show wpX_welcome post _ (nI x) (nI y) v3
        unfold wpX_welcome
        dsimp only
        refine hX _ _ _ _ _ ?_
        refine br_f (by decide) ?_
        refine nX _ _ _ _ _ _ ?_
        exact br_t rfl (h a)
      · show wpY_welcome post _ (nI x) (nI y) v3
        unfold wpY_welcome
        dsimp only
        refine hY _ _ _ _ _ _ ?_
        refine br_f (by decide) ?_
        refine nY _ _ _ _ _ _ _ ?_
        exact br_t rfl (h b l)
    · have ok1 : fp_Ok n (c + 1) (upd o c (nI x)) (upd p c (nI y)) := fp_Ok_up h7 ok hx hy hxy (fun i h1 h2 => by omega)
      have ok2 : fp_Ok n c (upd o c (nI x)) (upd p c (nI y)) := fp_Ok_le ok1 (by omega)
      have ec : fp_MH n j (fp_cl (upd o c (nI x))) (fp_cl (upd p c (nI y))) (-1) c = fp_MH n j (fp_cl o) (fp_cl p) (-1) c := fp_MH_cg (fun e he => ⟨fp_cl_un (by omega), fp_cl_un (by omega)⟩)
      have hr : ∃ r : Int32, ∀ P : Int32 → Prop, P r → ((nI (fp_MH n j (fp_cl (upd o c (nI x))) (fp_cl (upd p c (nI y))) (-1) (c + 1)) ≤ nI (fp_MH n j (fp_cl o) (fp_cl p) (-1) c) → P 0) ∧ (¬ nI (fp_MH n j (fp_cl (upd o c (nI x))) (fp_cl (upd p c (nI y))) (-1) (c + 1)) ≤ nI (fp_MH n j (fp_cl o) (fp_cl p) (-1) c) → P 1)) := by
        by_cases z : nI (fp_MH n j (fp_cl (upd o c (nI x))) (fp_cl (upd p c (nI y))) (-1) (c + 1)) ≤ nI (fp_MH n j (fp_cl o) (fp_cl p) (-1) c)
        · exact ⟨0, fun P h => br_t z h⟩
        · exact ⟨1, fun P h => br_f z h⟩
      obtain ⟨r, hr⟩ := hr
      refine ⟨r, upd o c (nI x), upd p c (nI y), ok2, fun post a h => ?_, fun post b l h => ?_⟩
      · show wpX_welcome post _ (nI x) (nI y) (nI j)
        unfold wpX_welcome
        dsimp only
        refine hX _ _ _ _ _ ?_
        refine br_f (by decide) ?_
        refine nX _ _ _ _ _ _ ?_
        refine br_f (by decide) ?_
        refine fx_se (by omega) ?_
        dsimp only
        refine fx_mh h2 h7 (by omega) hj ok2 (fun a' => ?_)
        dsimp only
        rw [nI_1 c, ec]
        refine fx_mh h2 h7 (by omega) hj ok1 (fun a2 => ?_)
        exact hr (fun r => post r (nI n, nI c, upd o c (nI x), upd p c (nI y), a2)) (h a2)
      · show wpY_welcome post _ (nI x) (nI y) (nI j)
        unfold wpY_welcome
        dsimp only
        refine hY _ _ _ _ _ _ ?_
        refine br_f (by decide) ?_
        refine nY _ _ _ _ _ _ _ ?_
        refine br_f (by decide) ?_
        refine fy_hold h2 h7 hc hj ok nY (fun b' l' => ?_)
        refine ⟨pk_in c 17 (by omega), nm_r (congrArg (fun z => upd o z (nI x)) (nI_clamp (by omega))) ⟨pk_in c 17 (by omega), nm_r (congrArg (fun z => upd p z (nI y)) (nI_clamp (by omega))) ?_⟩⟩
        rw [nI_1 c]
        refine fy_fc h2 h7 (by omega) ok1 (fun b2 l2 hl => ?_)
        dsimp only
        refine fy_bd h2 h7 (by omega) hj hl ?_
        exact hr (fun r => post r (nI n, nI c, upd o c (nI x), upd p c (nI y), b2, l2)) (h b2 l2)
theorem i_vc_welcome {k : Nat} {u : SX} {v : SY} (I : i_Rel k u v) (hk : k + 4 ≤ 2049) (v1 : Int32) (v2 : Int32) (v3 : Int32) : wpX_welcome (fun r u' => wpY_welcome (fun r' v' => r' = r ∧ i_Rel (k + 4) u' v') v v1 v2 v3) u v1 v2 v3 := by
  obtain ⟨n, c, o, p, a, b, l, rfl, rfl, h2, h7, hc, ok⟩ := I
  obtain ⟨r, o', p', ok', hX, hY⟩ := fp_wel h2 h7 hc ok v1 v2 v3
  exact hX _ a (fun a' => hY _ b l (fun b' l' => ⟨rfl, fp_rel a' b' l' h2 h7 hc ok'⟩))
theorem fp_rm27 {n c u : Nat} (h2 : 2 ≤ n) (h7 : n ≤ 7) (hc : c ≤ 16) (v3 : Int32) : ∀ d v, v + d = n → ∀ (x2 : Int32) (o p : Nat → Int32), fp_Ok n c o p → ∃ (r : Int32) (o' p' : Nat → Int32), fp_Ok n c o' p' ∧ (∀ (post : Int32 → SX → Prop) (J : Int32 → Int32 → Int32 → Int32 → (Nat → Int32) → (Nat → Int32) → (Nat → Int32) → Prop) (a : Nat → Int32), (∀ a', J r (nI (u + 1)) (nI n) (nI c) o' p' a') → wX_room_27 post J v3 (nI u) (d + 1) x2 (nI v) (nI n) (nI c) o p a) ∧ (∀ (post : Int32 → SY → Prop) (J : Int32 → Int32 → Int32 → Int32 → (Nat → Int32) → (Nat → Int32) → (Nat → Int32) → (Nat → Int32) → Prop) (b l : Nat → Int32), (∀ b' l', J r (nI (u + 1)) (nI n) (nI c) o' p' b' l') → wY_room_27 post J v3 (nI u) (d + 1) x2 (nI v) (nI n) (nI c) o p b l) := by
  intro d
  induction d with
  | zero =>
    intro v hv x2 o p ok
    exact ⟨x2, o, p, ok, fun post J a h => pk_le n v (fun _ => nm_r (nI_1 u) (h a)) (fun z => absurd z (by omega)), fun post J b l h => pk_le n v (fun _ => nm_r (nI_1 u) (h b l)) (fun z => absurd z (by omega))⟩
  | succ d ih =>
    intro v hv x2 o p ok
    obtain ⟨r1, o1, p1, ok1, hX, hY⟩ := fp_wel h2 h7 hc ok (nI u) (nI v) v3
    by_cases z : r1 = 0
    · obtain ⟨r, o2, p2, ok2, iX, iY⟩ := ih (v + 1) (by omega) x2 o1 p1 ok1
      refine ⟨r, o2, p2, ok2, fun post J a h => pk_le n v (fun z => absurd z (by omega)) (fun _ => ?_), fun post J b l h => pk_le n v (fun z => absurd z (by omega)) (fun _ => ?_)⟩
      · refine hX _ a (fun a' => ?_)
        exact br_t z (nm_r (nI_1 v) (iX post J a' h))
      · refine hY _ b l (fun b' l' => ?_)
        exact br_t z (nm_r (nI_1 v) (iY post J b' l' h))
    · obtain ⟨r, o2, p2, ok2, iX, iY⟩ := ih (v + 1) (by omega) (x2 + 1) o1 p1 ok1
      refine ⟨r, o2, p2, ok2, fun post J a h => pk_le n v (fun z => absurd z (by omega)) (fun _ => ?_), fun post J b l h => pk_le n v (fun z => absurd z (by omega)) (fun _ => ?_)⟩
      · refine hX _ a (fun a' => ?_)
        exact br_f z (nm_e (nm_r (nI_1 v) (iX post J a' h)))
      · refine hY _ b l (fun b' l' => ?_)
        exact br_f z (nm_e (nm_r (nI_1 v) (iY post J b' l' h)))
theorem fp_rm14 {n c : Nat} (h2 : 2 ≤ n) (h7 : n ≤ 7) (hc : c ≤ 16) (v3 : Int32) : ∀ d u, u + d = n → ∀ (x2 : Int32) (o p : Nat → Int32), fp_Ok n c o p → ∃ (r : Int32) (o' p' : Nat → Int32), fp_Ok n c o' p' ∧ (∀ (post : Int32 → SX → Prop) (a : Nat → Int32), (∀ a', post r (nI n, nI c, o', p', a')) → wX_room_14 post v3 (d + 1) x2 (nI u) (nI n) (nI c) o p a) ∧ (∀ (post : Int32 → SY → Prop) (b l : Nat → Int32), (∀ b' l', post r (nI n, nI c, o', p', b', l')) → wY_room_14 post v3 (d + 1) x2 (nI u) (nI n) (nI c) o p b l) := by
  intro d
  induction d with
  | zero =>
    intro u hu x2 o p ok
    exact ⟨x2, o, p, ok, fun post a h => pk_le n u (fun _ => h a) (fun z => absurd z (by omega)), fun post b l h => pk_le n u (fun _ => h b l) (fun z => absurd z (by omega))⟩
  | succ d ih =>
    intro u hu x2 o p ok
    obtain ⟨r1, o1, p1, ok1, hX, hY⟩ := fp_rm27 (u := u) h2 h7 hc v3 d (u + 1) (by omega) x2 o p ok
    obtain ⟨r, o2, p2, ok2, iX, iY⟩ := ih (u + 1) (by omega) r1 o1 p1 ok1
    refine ⟨r, o2, p2, ok2, fun post a h => pk_le n u (fun z => absurd z (by omega)) (fun _ => nm_r (nI_1 u) ⟨d + 1, ?_⟩), fun post b l h => pk_le n u (fun z => absurd z (by omega)) (fun _ => nm_r (nI_1 u) ⟨d + 1, ?_⟩)⟩
    · exact hX post (wX_room_14 post v3 (d + 1)) a (fun a' => iX post a' h)
    · exact hY post (wY_room_14 post v3 (d + 1)) b l (fun b' l' => iY post b' l' h)
theorem i_vc_room {k : Nat} {u : SX} {v : SY} (I : i_Rel k u v) (hk : k + 4 ≤ 2049) (v1 : Int32) : wpX_room (fun r u' => wpY_room (fun r' v' => r' = r ∧ i_Rel (k + 4) u' v') v v1) u v1 := by
  obtain ⟨n, c, o, p, a, b, l, rfl, rfl, h2, h7, hc, ok⟩ := I
  unfold wpX_room
  dsimp only
  rcases fp_num v1 with ⟨hX, hY⟩ | ⟨hX, hY, j, hj, rfl⟩
  · refine hX _ _ _ _ _ _ ?_
    refine br_t rfl ?_
    unfold wpY_room
    dsimp only
    refine hY _ _ _ _ _ _ _ ?_
    exact br_t rfl ⟨rfl, fp_rel a b l h2 h7 hc ok⟩
  · obtain ⟨r, o', p', ok', iX, iY⟩ := fp_rm14 h2 h7 hc (nI j) n 0 (by omega) 0 o p ok
    refine hX _ _ _ _ _ _ ?_
    refine br_f (by decide) ⟨n + 1, iX _ a (fun a' => ?_)⟩
    unfold wpY_room
    dsimp only
    refine hY _ _ _ _ _ _ _ ?_
    exact br_f (by decide) ⟨n + 1, iY _ b l (fun b' l' => ⟨rfl, fp_rel a' b' l' h2 h7 hc ok'⟩)⟩
end
section
/-! parts -/
theorem fy_pt132 {post : Int32 → SY → Prop} {n : Nat} {C : Int32} {o p b l : Nat → Int32} {q : Nat → Nat} (h7 : n ≤ 7) (hb : ∀ v, v < n → b v = nI (q v)) (hq : ∀ v, q v ≤ v) (h : post (nI (fp_cn (fp_rt q) n)) (nI n, C, o, p, b, l)) : ∀ d v, v + d = n → wY_parts_132 post (nI n) C o p b l (d + 1) (nI (fp_cn (fp_rt q) v)) (nI v) := by
  intro d
  induction d with
  | zero =>
    intro v hv
    have e : v = n := by omega
    subst e
    exact pk_le v v (fun _ => h) (fun z => absurd z (by omega))
  | succ d ih =>
    intro v hv
    have h3 := ih (v + 1) (by omega)
    have h4 := hq v
    refine pk_le n v (fun z => absurd z (by omega)) (fun _ => ⟨pk_in v 7 (by omega), ?_⟩)
    rw [nI_clamp (by omega), hb v (by omega)]
    refine pk_eq (q v) v (fun z => nm_r (nI_1 _) (nm_r (nI_1 v) ?_)) (fun z => nm_r (nI_1 v) ?_)
    · rw [fp_cn_t (fp_rt_t.mpr z)] at h3
      exact h3
    · rw [fp_cn_f (fun y => z (fp_rt_t.mp y))] at h3
      exact h3
theorem fy_pt33 {post : Int32 → SY → Prop} {J25 : Int32 → (Nat → Int32) → (Nat → Int32) → (Nat → Int32) → (Nat → Int32) → Prop} {n c r : Nat} {o p l : Nat → Int32} {q : Nat → Nat} (h7 : n ≤ 7) (hc : c ≤ 16) (ok : fp_Ok n c o p) (hq : ∀ v, q v ≤ v) (h : ∀ b', (∀ v, v < n → b' v = nI (fp_pr (fp_cl o) (fp_cl p) c q v)) → J25 (nI (r + 1)) o p b' l) : ∀ d e b, e + d = c → (∀ v, v < n → b v = nI (fp_pr (fp_cl o) (fp_cl p) e q v)) → wY_parts_33 post J25 (nI r) (nI n) (nI c) (d + 1) (nI e) o p b l := by
  intro d
  induction d with
  | zero =>
    intro e b he hb
    have z : e = c := by omega
    subst z
    exact pk_le e e (fun _ => nm_r (nI_1 r) (h b hb)) (fun z => absurd z (by omega))
  | succ d ih =>
    intro e b he hb
    obtain ⟨⟨o1, p1⟩, o2, p2, op⟩ := ok e (by omega)
    have ho : b (o e).toNatClampNeg = nI (fp_pr (fp_cl o) (fp_cl p) e q (fp_cl o e)) := hb _ o2
    have hp : b (p e).toNatClampNeg = nI (fp_pr (fp_cl o) (fp_cl p) e q (fp_cl p e)) := hb _ p2
    have g1 := Nat.le_trans (fp_pr_le (fr := fp_cl o) (to := fp_cl p) (q := q) e (fp_cl o e)) (hq _)
    have g2 := Nat.le_trans (fp_pr_le (fr := fp_cl o) (to := fp_cl p) (q := q) e (fp_cl p e)) (hq _)
    have key : ∀ w, fp_mn (fp_pr (fp_cl o) (fp_cl p) e q (fp_cl o e)) (fp_pr (fp_cl o) (fp_cl p) e q (fp_cl p e)) = w → wY_parts_91 post J25 (wY_parts_33 post J25 (nI r) (nI n) (nI c) (d + 1)) (nI r) (nI e) (nI w) (nI n) (nI c) o p b l := by
      intro w hw
      refine ⟨pk_in e 17 (by omega), ?_⟩
      rw [nI_clamp (by omega)]
      refine ⟨pk_in (fp_cl o e) 7 (by omega) o1, nm_e ⟨pk_in e 17 (by omega), pk_in (fp_cl p e) 7 (by omega) p1, nm_e (nm_r (nI_1 e) (ih (e + 1) _ (by omega) (fun v hv => ?_)))⟩⟩
      show upd (upd b (fp_cl o e) (nI w)) (fp_cl p e) (nI w) v = nI (if v = fp_cl p e then fp_mn (fp_pr (fp_cl o) (fp_cl p) e q (fp_cl o e)) (fp_pr (fp_cl o) (fp_cl p) e q (fp_cl p e)) else if v = fp_cl o e then fp_mn (fp_pr (fp_cl o) (fp_cl p) e q (fp_cl o e)) (fp_pr (fp_cl o) (fp_cl p) e q (fp_cl p e)) else fp_pr (fp_cl o) (fp_cl p) e q v)
      rw [hw]
      by_cases y : v = fp_cl p e
      · rw [if_pos y, y, pk_us]
      · rw [if_neg y, pk_un y]
        by_cases y2 : v = fp_cl o e
        · rw [if_pos y2, y2, pk_us]
        · rw [if_neg y2, pk_un y2, hb v hv]
    refine pk_le c e (fun z => absurd z (by omega)) (fun _ => ?_)
    rw [nI_clamp (by omega)]
    refine ⟨pk_in e 17 (by omega), pk_in (fp_cl o e) 7 (by omega) o1, pk_in e 17 (by omega), pk_in (fp_cl p e) 7 (by omega) p1, ?_⟩
    rw [ho, hp]
    refine pk_le (fp_pr (fp_cl o) (fp_cl p) e q (fp_cl p e)) (fp_pr (fp_cl o) (fp_cl p) e q (fp_cl o e)) (fun z => ⟨pk_in e 17 (by omega), pk_in (fp_cl p e) 7 (by omega) p1, key _ (if_neg (by omega))⟩) (fun z => ⟨pk_in e 17 (by omega), pk_in (fp_cl o e) 7 (by omega) o1, key _ (if_pos z)⟩)
theorem fy_pt25 {post : Int32 → SY → Prop} {n c : Nat} {o p l : Nat → Int32} (h7 : n ≤ 7) (hc : c ≤ 16) (ok : fp_Ok n c o p) (h : ∀ b', post (nI (fp_cn (fp_rt (fp_rr (fp_cl o) (fp_cl p) c 7)) n)) (nI n, nI c, o, p, b', l)) : ∀ d r b, r + d = 7 → (∀ v, v < n → b v = nI (fp_rr (fp_cl o) (fp_cl p) c r v)) → wY_parts_25 post (nI n) (nI c) (d + 1) (nI r) o p b l := by
  intro d
  induction d with
  | zero =>
    intro r b hr hb
    have e : r = 7 := by omega
    subst e
    exact pk_le 7 7 (fun _ => ⟨n + 1, fy_pt132 h7 hb (fp_rr_le 7) (h b) n 0 (by omega)⟩) (fun z => absurd z (by omega))
  | succ d ih =>
    intro r b hr hb
    refine pk_le 7 r (fun z => absurd z (by omega)) (fun _ => ⟨c + 1, ?_⟩)
    exact fy_pt33 (q := fp_rr (fp_cl o) (fp_cl p) c r) h7 hc ok (fp_rr_le r) (fun b' hb' => ih (r + 1) b' (by omega) hb') c 0 b (by omega) hb
theorem fy_pt2 {post : Int32 → SY → Prop} {n c : Nat} {o p l : Nat → Int32} (h7 : n ≤ 7) (hc : c ≤ 16) (ok : fp_Ok n c o p) (h : ∀ b', post (nI (fp_cn (fp_rt (fp_rr (fp_cl o) (fp_cl p) c 7)) n)) (nI n, nI c, o, p, b', l)) : ∀ d v b, v + d = n → (∀ u, u < v → b u = nI u) → wY_parts_2 post (nI n) (nI c) (d + 1) (nI v) o p b l := by
  intro d
  induction d with
  | zero =>
    intro v b hv hb
    have e : v = n := by omega
    subst e
    exact pk_le v v (fun _ => ⟨7 + 1, fy_pt25 h7 hc ok h 7 0 b rfl hb⟩) (fun z => absurd z (by omega))
  | succ d ih =>
    intro v b hv hb
    refine pk_le n v (fun z => absurd z (by omega)) (fun _ => ⟨pk_in v 7 (by omega), ?_⟩)
    rw [nI_clamp (by omega)]
    refine nm_e (nm_r (nI_1 v) (ih (v + 1) _ (by omega) (fun u hu => ?_)))
    by_cases e : u = v
    · rw [e, pk_us]
    · rw [pk_un e, hb u (by omega)]
theorem i_vc_parts {k : Nat} {u : SX} {v : SY} (I : i_Rel k u v) (hk : k + 4 ≤ 2049) : wpX_parts (fun r u' => wpY_parts (fun r' v' => r' = r ∧ i_Rel (k + 4) u' v') v) u := by
  obtain ⟨n, c, o, p, a, b, l, rfl, rfl, h2, h7, hc, ok⟩ := I
  unfold wpX_parts
  dsimp only
  have he : ∀ e, e < c → fp_cl o e < n ∧ fp_cl p e < n := fun e he => ⟨(ok e he).2.1, (ok e he).2.2.1⟩
  have hl : ∀ e, e < c → nI e ≠ -1 := fun e he => fp_ne1 (by omega)
  have hm := fp_parts h2 h7 (fp_rr_7 (by omega) h7 he) he hl
  have hn := fp_cn_le (fp_rt (fp_rr (fp_cl o) (fp_cl p) c 7)) n
  refine fx_mh (k := 1) h2 h7 (by omega) (by omega) ok (fun a' => ?_)
  dsimp only
  rw [hm, pk_sub (by omega)]
  refine ⟨n + 1, fy_pt2 h7 hc ok (fun b' => ⟨congrArg nI (by omega), fp_rel a' b' l h2 h7 hc ok⟩) n 0 b (by omega) (fun u hu => absurd hu (by omega))⟩
end
