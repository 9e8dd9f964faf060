/-! counting -/
def fp_cn (P : Nat → Bool) : Nat → Nat
  | 0 => 0
  | n + 1 => fp_cn P n + (if P n = true then 1 else 0)
theorem fp_cn_s (P : Nat → Bool) (n : Nat) : fp_cn P (n + 1) = fp_cn P n + (if P n = true then 1 else 0) := rfl
theorem fp_cn_t {P : Nat → Bool} {n : Nat} (h : P n = true) : fp_cn P (n + 1) = fp_cn P n + 1 := by rw [fp_cn_s, if_pos h]
theorem fp_cn_f {P : Nat → Bool} {n : Nat} (h : ¬ P n = true) : fp_cn P (n + 1) = fp_cn P n := by rw [fp_cn_s, if_neg h]; rfl
theorem fp_cn_le (P : Nat → Bool) : ∀ n, fp_cn P n ≤ n := by
  intro n
  induction n with
  | zero => exact Nat.le_refl 0
  | succ n ih =>
    by_cases h : P n = true
    · rw [fp_cn_t h]; omega
    · rw [fp_cn_f h]; omega
theorem fp_cn_mono (P : Nat → Bool) : ∀ d a, fp_cn P a ≤ fp_cn P (a + d) := by
  intro d
  induction d with
  | zero => intro a; exact Nat.le_refl _
  | succ d ih =>
    intro a
    have h1 := ih a
    show _ ≤ fp_cn P ((a + d) + 1)
    by_cases h : P (a + d) = true
    · rw [fp_cn_t h]; omega
    · rw [fp_cn_f h]; omega
theorem fp_cn0 {P Q : Nat → Bool} : ∀ n, (∀ v, v < n → P v = true → Q v = true) → fp_cn P n ≤ fp_cn Q n := by
  intro n
  induction n with
  | zero => intro _; exact Nat.le_refl 0
  | succ n ih =>
    intro h
    have h1 := ih (fun v hv => h v (by omega))
    by_cases e : P n = true
    · rw [fp_cn_t e, fp_cn_t (h n (by omega) e)]; omega
    · rw [fp_cn_f e]
      by_cases e2 : Q n = true
      · rw [fp_cn_t e2]; omega
      · rw [fp_cn_f e2]; omega
theorem fp_cn1 {P Q : Nat → Bool} (B : Nat) : ∀ n, (∀ v, v < n → v ≠ B → P v = true → Q v = true) → fp_cn P n ≤ fp_cn Q n + 1 := by
  intro n
  induction n with
  | zero => intro _; exact Nat.zero_le _
  | succ n ih =>
    intro h
    by_cases eB : n = B
    · have h0 : fp_cn P n ≤ fp_cn Q n := fp_cn0 n (fun v hv => h v (by omega) (by omega))
      have h1 := fp_cn_mono Q 1 n
      by_cases e : P n = true
      · rw [fp_cn_t e]; omega
      · rw [fp_cn_f e]; omega
    · have h1 := ih (fun v hv => h v (by omega))
      by_cases e : P n = true
      · rw [fp_cn_t e, fp_cn_t (h n (by omega) eB e)]; omega
      · rw [fp_cn_f e]
        have h2 := fp_cn_mono Q 1 n
        omega
theorem fp_cn2 {P Q : Nat → Bool} (w : Nat) (hp : ¬ P w = true) (hq : Q w = true) : ∀ n, w < n → (∀ v, v < n → P v = true → Q v = true) → fp_cn P n + 1 ≤ fp_cn Q n := by
  intro n
  induction n with
  | zero => intro h; exact absurd h (by omega)
  | succ n ih =>
    intro hw h
    by_cases e : w = n
    · subst e
      rw [fp_cn_f hp, fp_cn_t hq]
      have := fp_cn0 w (fun v hv => h v (by omega))
      omega
    · have h1 := ih (by omega) (fun v hv => h v (by omega))
      by_cases e : P n = true
      · rw [fp_cn_t e, fp_cn_t (h n (by omega) e)]; omega
      · rw [fp_cn_f e]
        have h2 := fp_cn_mono Q 1 n
        omega
theorem fp_cnF : ∀ n, fp_cn (fun _ => false) n = 0 := by
  intro n
  induction n with
  | zero => rfl
  | succ n ih => rw [fp_cn_f (by decide), ih]
theorem fp_cnT {P : Nat → Bool} : ∀ n, (∀ v, v < n → P v = true) → fp_cn P n = n := by
  intro n
  induction n with
  | zero => intro _; rfl
  | succ n ih => intro h; rw [fp_cn_t (h n (by omega)), ih (fun v hv => h v (by omega))]
/-! the labels hit by the vertices below n that R takes -/
def fp_ht (f : Nat → Nat) (R : Nat → Bool) : Nat → Nat → Bool
  | 0, _ => false
  | n + 1, l => fp_ht f R n l || (R n && f n == l)
theorem fp_ht_iff (f : Nat → Nat) (R : Nat → Bool) (l : Nat) : ∀ n, fp_ht f R n l = true ↔ ∃ v, v < n ∧ R v = true ∧ f v = l := by
  intro n
  induction n with
  | zero => exact ⟨fun h => (nomatch h), fun ⟨v, h, _⟩ => absurd h (by omega)⟩
  | succ n ih =>
    show (fp_ht f R n l || (R n && f n == l)) = true ↔ _
    rw [Bool.or_eq_true, Bool.and_eq_true, beq_iff_eq, ih]
    constructor
    · intro h
      cases h with
      | inl h => obtain ⟨v, h1, h2⟩ := h; exact ⟨v, by omega, h2⟩
      | inr h => exact ⟨n, by omega, h⟩
    · intro ⟨v, h1, h2⟩
      by_cases e : v = n
      · subst e; exact Or.inr h2
      · exact Or.inl ⟨v, by omega, h2⟩
/-- no more labels than vertices that R takes -/
theorem fp_ht_cn (f : Nat → Nat) (R : Nat → Bool) (m : Nat) : ∀ n, fp_cn (fp_ht f R n) m ≤ fp_cn R n := by
  intro n
  induction n with
  | zero =>
    have : fp_cn (fp_ht f R 0) m = 0 := fp_cnF m
    omega
  | succ n ih =>
    by_cases e : R n = true
    · have h : fp_cn (fp_ht f R (n + 1)) m ≤ fp_cn (fp_ht f R n) m + 1 := by
        refine fp_cn1 (f n) m (fun l _ hl h => ?_)
        obtain ⟨v, h1, h2, h3⟩ := (fp_ht_iff f R l (n + 1)).mp h
        refine (fp_ht_iff f R l n).mpr ⟨v, ?_, h2, h3⟩
        have : v ≠ n := fun z => hl (by rw [← h3, z])
        omega
      rw [fp_cn_t e]
      omega
    · have h : fp_cn (fp_ht f R (n + 1)) m ≤ fp_cn (fp_ht f R n) m := by
        refine fp_cn0 m (fun l _ h => ?_)
        obtain ⟨v, h1, h2, h3⟩ := (fp_ht_iff f R l (n + 1)).mp h
        refine (fp_ht_iff f R l n).mpr ⟨v, ?_, h2, h3⟩
        have : v ≠ n := fun z => e (by rw [← z]; exact h2)
        omega
      rw [fp_cn_f e]
      omega
/-! labels merged along the edges -/
def fp_fs (fr to f : Nat → Nat) : Nat → Nat → Nat
  | 0 => f
  | e + 1 => fun v => if fp_fs fr to f e v = fp_fs fr to f e (to e) then fp_fs fr to f e (fr e) else fp_fs fr to f e v
theorem fp_fs_s (fr to f : Nat → Nat) (e v : Nat) : fp_fs fr to f (e + 1) v = if fp_fs fr to f e v = fp_fs fr to f e (to e) then fp_fs fr to f e (fr e) else fp_fs fr to f e v := rfl
theorem fp_fs_eq {fr to f : Nat → Nat} {x y e : Nat} (h : fp_fs fr to f e x = fp_fs fr to f e y) : fp_fs fr to f (e + 1) x = fp_fs fr to f (e + 1) y := by
  rw [fp_fs_s, fp_fs_s, h]
theorem fp_fs_0 {fr to f : Nat → Nat} {x y : Nat} (h : f x = f y) : ∀ c, fp_fs fr to f c x = fp_fs fr to f c y := by
  intro c
  induction c with
  | zero => exact h
  | succ c ih => exact fp_fs_eq ih
theorem fp_fs_e {fr to f : Nat → Nat} : ∀ c e, e < c → fp_fs fr to f c (fr e) = fp_fs fr to f c (to e) := by
  intro c
  induction c with
  | zero => intro e h; exact absurd h (by omega)
  | succ c ih =>
    intro e h
    by_cases z : e = c
    · subst z
      rw [fp_fs_s, fp_fs_s, if_pos rfl]
      split <;> rfl
    · exact fp_fs_eq (ih e (by omega))
theorem fp_fs_cn (fr to f : Nat → Nat) (n m : Nat) (left : Int32) : ∀ c, (∀ e, e < c → nI e ≠ left) → (∀ e, e < c → fr e < n ∧ to e < n) → fp_cn (fp_ht f (fun _ => true) n) m ≤ fp_cn (fp_ht (fp_fs fr to f c) (fun _ => true) n) m + fp_cu f fr to left c := by
  intro c
  induction c with
  | zero => intro _ _; exact Nat.le_refl _
  | succ c ih =>
    intro hl he
    have h1 := ih (fun e h => hl e (by omega)) (fun e h => he e (by omega))
    show _ ≤ _ + (fp_cu f fr to left c + (if nI c = left then 0 else if f (fr c) = f (to c) then 0 else 1))
    rw [if_neg (hl c (by omega))]
    by_cases z : f (fr c) = f (to c)
    · rw [if_pos z]
      have h2 : fp_cn (fp_ht (fp_fs fr to f c) (fun _ => true) n) m ≤ fp_cn (fp_ht (fp_fs fr to f (c + 1)) (fun _ => true) n) m := by
        refine fp_cn0 m (fun l _ h => ?_)
        obtain ⟨v, a1, a2, a3⟩ := (fp_ht_iff _ _ l n).mp h
        refine (fp_ht_iff _ _ l n).mpr ⟨v, a1, a2, ?_⟩
        rw [fp_fs_s, fp_fs_0 z c]
        by_cases y : fp_fs fr to f c v = fp_fs fr to f c (to c)
        · rw [if_pos y, ← y]; exact a3
        · rw [if_neg y]; exact a3
      omega
    · rw [if_neg z]
      have h2 : fp_cn (fp_ht (fp_fs fr to f c) (fun _ => true) n) m ≤ fp_cn (fp_ht (fp_fs fr to f (c + 1)) (fun _ => true) n) m + 1 := by
        refine fp_cn1 (fp_fs fr to f c (to c)) m (fun l _ hl2 h => ?_)
        obtain ⟨v, a1, a2, a3⟩ := (fp_ht_iff _ _ l n).mp h
        refine (fp_ht_iff _ _ l n).mpr ⟨v, a1, a2, ?_⟩
        rw [fp_fs_s, if_neg (fun y => hl2 (by rw [← a3, y]))]
        exact a3
      omega
theorem fp_ml_hit : ∀ t, fp_Rg t → ∀ l, l < fp_ml t → ∃ v, v < t.length ∧ fp_lk t v = l := by
  intro t
  induction t with
  | nil => intro _ l h; exact absurd h (Nat.not_lt_zero _)
  | cons a t ih =>
    intro hr l h
    obtain ⟨h1, h2⟩ := hr
    have h' : l < max (fp_ml t) (a + 1) := h
    by_cases e : l < fp_ml t
    · obtain ⟨v, b1, b2⟩ := ih h2 l e
      exact ⟨v, Nat.lt_succ_of_lt b1, by rw [fp_lk_lt b1]; exact b2⟩
    · exact ⟨t.length, Nat.lt_succ_self _, by rw [fp_lk_len]; omega⟩
/-- the roots of a labelling -/
def fp_rt (p : Nat → Nat) (v : Nat) : Bool := p v == v
theorem fp_rt_t {p : Nat → Nat} {v : Nat} : fp_rt p v = true ↔ p v = v := beq_iff_eq
/-- what Y's labels keep to at the end -/
def fp_Lab (p fr to : Nat → Nat) (c : Nat) : Prop :=
  (∀ v, p v ≤ v) ∧ (∀ e, e < c → p (fr e) = p (to e)) ∧ (∀ f : Nat → Nat, (∀ e, e < c → f (fr e) = f (to e)) → ∀ v, f (p v) = f v)
theorem fp_grp {p fr to : Nat → Nat} {c n : Nat} (hp : fp_Lab p fr to c) (he : ∀ e, e < c → fr e < n ∧ to e < n) {left : Int32} (hl : ∀ e, e < c → nI e ≠ left) {t : List Nat} (ht : fp_Rg t) (hn : t.length = n) : fp_ml t ≤ fp_cn (fp_rt p) n + fp_cu (fp_lk t) fr to left c := by
  obtain ⟨p1, p2, p3⟩ := hp
  have h1 : fp_cn (fp_ht (fp_lk t) (fun _ => true) n) (fp_ml t) = fp_ml t := by
    refine fp_cnT _ (fun l hl => (fp_ht_iff _ _ l n).mpr ?_)
    obtain ⟨v, b1, b2⟩ := fp_ml_hit t ht l hl
    exact ⟨v, by omega, rfl, b2⟩
  have h2 := fp_fs_cn fr to (fp_lk t) n (fp_ml t) left c hl he
  have h3 : fp_cn (fp_ht (fp_fs fr to (fp_lk t) c) (fun _ => true) n) (fp_ml t) ≤ fp_cn (fp_ht (fp_fs fr to (fp_lk t) c) (fp_rt p) n) (fp_ml t) := by
    refine fp_cn0 _ (fun l _ h => ?_)
    obtain ⟨v, a1, a2, a3⟩ := (fp_ht_iff _ _ l n).mp h
    have q := p1 v
    exact (fp_ht_iff _ _ l n).mpr ⟨p v, by omega, fp_rt_t.mpr (p3 p p2 v), by rw [p3 _ (fp_fs_e c) v]; exact a3⟩
  have h4 := fp_ht_cn (fp_fs fr to (fp_lk t) c) (fp_rt p) (fp_ml t) n
  omega
/-! the grouping of a labelling -/
def fp_rl (p : Nat → Nat) : Nat → List Nat
  | 0 => []
  | v + 1 => fp_cn (fp_rt p) (p v) :: fp_rl p v
theorem fp_rl_len (p : Nat → Nat) : ∀ n, (fp_rl p n).length = n := by
  intro n
  induction n with
  | zero => rfl
  | succ n ih => show (fp_rl p n).length + 1 = n + 1; rw [ih]
theorem fp_rl_lk (p : Nat → Nat) : ∀ n v, v < n → fp_lk (fp_rl p n) v = fp_cn (fp_rt p) (p v) := by
  intro n
  induction n with
  | zero => intro v h; exact absurd h (by omega)
  | succ n ih =>
    intro v h
    show (if v = (fp_rl p n).length then fp_cn (fp_rt p) (p n) else fp_lk (fp_rl p n) v) = _
    rw [fp_rl_len]
    by_cases e : v = n
    · rw [if_pos e, e]
    · rw [if_neg e, ih v (by omega)]
theorem fp_rl_ml {p : Nat → Nat} (h1 : ∀ v, p v ≤ v) (h2 : ∀ v, p (p v) = p v) : ∀ n, fp_ml (fp_rl p n) = fp_cn (fp_rt p) n := by
  intro n
  induction n with
  | zero => rfl
  | succ n ih =>
    show max (fp_ml (fp_rl p n)) (fp_cn (fp_rt p) (p n) + 1) = _
    rw [ih]
    by_cases e : p n = n
    · rw [fp_cn_t (fp_rt_t.mpr e), e]
      omega
    · rw [fp_cn_f (fun z => e (fp_rt_t.mp z))]
      have a : fp_cn (fp_rt p) (p n + 1) = fp_cn (fp_rt p) (p n) + 1 := fp_cn_t (fp_rt_t.mpr (h2 n))
      have b := fp_cn_mono (fp_rt p) (n - (p n + 1)) (p n + 1)
      have q := h1 n
      rw [show p n + 1 + (n - (p n + 1)) = n from by omega] at b
      omega
theorem fp_rl_Rg {p : Nat → Nat} (h1 : ∀ v, p v ≤ v) (h2 : ∀ v, p (p v) = p v) : ∀ n, fp_Rg (fp_rl p n) := by
  intro n
  induction n with
  | zero => trivial
  | succ n ih =>
    refine ⟨?_, ih⟩
    rw [fp_rl_ml h1 h2]
    have b := fp_cn_mono (fp_rt p) (n - p n) (p n)
    have q := h1 n
    rw [show p n + (n - p n) = n from by omega] at b
    exact b
/-- one forest holds all but the roots -/
theorem fp_parts {p fr to : Nat → Nat} {c n : Nat} (h2 : 2 ≤ n) (h7 : n ≤ 7) (hp : fp_Lab p fr to c) (he : ∀ e, e < c → fr e < n ∧ to e < n) {left : Int32} (hl : ∀ e, e < c → nI e ≠ left) : fp_MH n 1 fr to left c = n - fp_cn (fp_rt p) n := by
  have hb : ∀ t, t ∈ fp_L n → fp_ml t ≤ fp_cn (fp_rt p) n + fp_cu (fp_lk t) fr to left c := by
    intro t ht
    have ⟨e1, e2⟩ := fp_L_of (by omega) ht
    exact fp_grp hp he hl e2 e1
  obtain ⟨p1, p2, p3⟩ := hp
  have p4 : ∀ v, p (p v) = p v := p3 p p2
  apply Nat.le_antisymm
  · have h := (fp_MH_le.mp (Nat.le_refl (fp_MH n 1 fr to left c))).2 (fp_rl p n) (fp_L_mem (by omega) (fp_rl_Rg p1 p4 n) (fp_rl_len p n))
    rw [fp_rl_ml p1 p4, fp_cu_0 _ _ _ _ c (fun e h => by rw [fp_rl_lk p n _ (he e h).1, fp_rl_lk p n _ (he e h).2, p2 e h])] at h
    omega
  · rw [fp_MH_le]
    constructor
    · have h := hb (fp_sp n) (fp_L_mem (by omega) (fp_sp_Rg n) (fp_sp_len n))
      have h3 := fp_cu_le (fp_lk (fp_sp n)) fr to left c
      rw [fp_sp_ml] at h
      omega
    · intro t ht
      have h := hb t ht
      omega
/-! Y's rounds over the labels -/
def fp_mn (a b : Nat) : Nat := if a < b then a else b
theorem fp_mn_le (a b : Nat) : fp_mn a b ≤ a ∧ fp_mn a b ≤ b ∧ (fp_mn a b = a ∨ fp_mn a b = b) := by
  unfold fp_mn
  split <;> omega
def fp_st (fr to : Nat → Nat) (e : Nat) (q : Nat → Nat) : Nat → Nat :=
  fun v => if v = to e then fp_mn (q (fr e)) (q (to e)) else if v = fr e then fp_mn (q (fr e)) (q (to e)) else q v
def fp_pr (fr to : Nat → Nat) : Nat → (Nat → Nat) → (Nat → Nat)
  | 0, q => q
  | e + 1, q => fp_st fr to e (fp_pr fr to e q)
def fp_rr (fr to : Nat → Nat) (c : Nat) : Nat → (Nat → Nat)
  | 0 => fun v => v
  | r + 1 => fp_pr fr to c (fp_rr fr to c r)
theorem fp_st_c {fr to : Nat → Nat} {e : Nat} {q : Nat → Nat} (v : Nat) : (v = to e ∧ fp_st fr to e q v = fp_mn (q (fr e)) (q (to e))) ∨ (v = fr e ∧ fp_st fr to e q v = fp_mn (q (fr e)) (q (to e))) ∨ (fp_st fr to e q v = q v) := by
  unfold fp_st
  by_cases h : v = to e
  · exact Or.inl ⟨h, if_pos h⟩
  · by_cases h2 : v = fr e
    · exact Or.inr (Or.inl ⟨h2, by rw [if_neg h, if_pos h2]⟩)
    · exact Or.inr (Or.inr (by rw [if_neg h, if_neg h2]))
theorem fp_st_le {fr to : Nat → Nat} {e : Nat} {q : Nat → Nat} (v : Nat) : fp_st fr to e q v ≤ q v := by
  have h := fp_mn_le (q (fr e)) (q (to e))
  rcases fp_st_c (fr := fr) (to := to) (e := e) (q := q) v with ⟨rfl, h2⟩ | ⟨rfl, h2⟩ | h2 <;> omega
theorem fp_st_f {fr to : Nat → Nat} {e : Nat} {q f : Nat → Nat} (hf : f (fr e) = f (to e)) (hq : ∀ v, f (q v) = f v) (v : Nat) : f (fp_st fr to e q v) = f v := by
  have h := (fp_mn_le (q (fr e)) (q (to e))).2.2
  have h3 : f (fp_mn (q (fr e)) (q (to e))) = f (fr e) := by
    cases h with
    | inl h => rw [h, hq]
    | inr h => rw [h, hq, hf]
  rcases fp_st_c (fr := fr) (to := to) (e := e) (q := q) v with ⟨rfl, h2⟩ | ⟨rfl, h2⟩ | h2
  · rw [h2, h3, hf]
  · rw [h2, h3]
  · rw [h2, hq]
theorem fp_pr_le {fr to : Nat → Nat} {q : Nat → Nat} : ∀ c v, fp_pr fr to c q v ≤ q v := by
  intro c
  induction c with
  | zero => intro v; exact Nat.le_refl _
  | succ c ih => intro v; exact Nat.le_trans (fp_st_le v) (ih v)
theorem fp_pr_f {fr to : Nat → Nat} {q f : Nat → Nat} (hq : ∀ v, f (q v) = f v) : ∀ c, (∀ e, e < c → f (fr e) = f (to e)) → ∀ v, f (fp_pr fr to c q v) = f v := by
  intro c
  induction c with
  | zero => intro _ v; exact hq v
  | succ c ih => intro h v; exact fp_st_f (h c (by omega)) (ih (fun e he => h e (by omega))) v
theorem fp_rr_le {fr to : Nat → Nat} {c : Nat} : ∀ r v, fp_rr fr to c r v ≤ v := by
  intro r
  induction r with
  | zero => intro v; exact Nat.le_refl _
  | succ r ih => intro v; exact Nat.le_trans (fp_pr_le c v) (ih v)
theorem fp_rr_f {fr to : Nat → Nat} {c : Nat} {f : Nat → Nat} (h : ∀ e, e < c → f (fr e) = f (to e)) : ∀ r v, f (fp_rr fr to c r v) = f v := by
  intro r
  induction r with
  | zero => intro v; rfl
  | succ r ih => exact fp_pr_f ih c h
/-- the vertices labelled l or less are closed under the edges -/
def fp_Cl (fr to : Nat → Nat) (c l : Nat) (q : Nat → Nat) : Prop := ∀ e, e < c → (q (fr e) ≤ l ↔ q (to e) ≤ l)
theorem fp_Cl_pr {fr to : Nat → Nat} {c l : Nat} {q : Nat → Nat} (h : fp_Cl fr to c l q) : ∀ d, d ≤ c → ∀ v, (fp_pr fr to d q v ≤ l ↔ q v ≤ l) := by
  intro d
  induction d with
  | zero => intro _ v; exact Iff.rfl
  | succ d ih =>
    intro hd v
    have ih := ih (by omega)
    have hd' := h d (by omega)
    have e1 := ih (fr d)
    have e2 := ih (to d)
    have h3 := fp_mn_le (fp_pr fr to d q (fr d)) (fp_pr fr to d q (to d))
    show fp_st fr to d (fp_pr fr to d q) v ≤ l ↔ q v ≤ l
    rcases fp_st_c (fr := fr) (to := to) (e := d) (q := fp_pr fr to d q) v with ⟨rfl, h2⟩ | ⟨rfl, h2⟩ | h2
    · rw [h2]
      rcases h3.2.2 with z | z <;> rw [z]
      · rw [e1, hd']
      · rw [e2]
    · rw [h2]
      rcases h3.2.2 with z | z <;> rw [z]
      · rw [e1]
      · rw [e2, hd']
    · rw [h2]; exact ih v
theorem fp_pr_mono {fr to : Nat → Nat} {q : Nat → Nat} (a v : Nat) : ∀ d, fp_pr fr to (a + d) q v ≤ fp_pr fr to a q v := by
  intro d
  induction d with
  | zero => exact Nat.le_refl _
  | succ d ih => exact Nat.le_trans (fp_st_le v) ih
theorem fp_pr_edge {fr to : Nat → Nat} {q : Nat → Nat} {c e : Nat} (h : e < c) : fp_pr fr to c q (fr e) ≤ q (to e) ∧ fp_pr fr to c q (to e) ≤ q (fr e) := by
  have m1 := fp_pr_mono (fr := fr) (to := to) (q := q) (e + 1) (fr e) (c - (e + 1))
  have m2 := fp_pr_mono (fr := fr) (to := to) (q := q) (e + 1) (to e) (c - (e + 1))
  rw [show e + 1 + (c - (e + 1)) = c from by omega] at m1 m2
  have h3 := fp_mn_le (fp_pr fr to e q (fr e)) (fp_pr fr to e q (to e))
  have a1 := fp_pr_le (fr := fr) (to := to) (q := q) e (fr e)
  have a2 := fp_pr_le (fr := fr) (to := to) (q := q) e (to e)
  have s2 : fp_pr fr to (e + 1) q (to e) = fp_mn (fp_pr fr to e q (fr e)) (fp_pr fr to e q (to e)) := if_pos rfl
  have s1 : fp_pr fr to (e + 1) q (fr e) = fp_mn (fp_pr fr to e q (fr e)) (fp_pr fr to e q (to e)) := by
    show (if fr e = to e then _ else if fr e = fr e then _ else _) = _
    rw [if_pos (rfl : fr e = fr e)]
    split <;> rfl
  constructor <;> omega
theorem fp_rr_grow {fr to : Nat → Nat} {c n l : Nat} (hn : 1 ≤ n) (he : ∀ e, e < c → fr e < n ∧ to e < n) : ∀ r, fp_Cl fr to c l (fp_rr fr to c r) ∨ r + 1 ≤ fp_cn (fun v => decide (fp_rr fr to c r v ≤ l)) n := by
  intro r
  induction r with
  | zero =>
    refine Or.inr ?_
    have h := fp_cn_mono (fun v => decide (fp_rr fr to c 0 v ≤ l)) (n - 1) 1
    rw [show 1 + (n - 1) = n from by omega] at h
    have h1 : fp_cn (fun v => decide (fp_rr fr to c 0 v ≤ l)) 1 = 1 := fp_cn_t (n := 0) (decide_eq_true (Nat.zero_le l))
    show 0 + 1 ≤ fp_cn (fun v => decide (fp_rr fr to c 0 v ≤ l)) n
    omega
  | succ r ih =>
    by_cases hC : fp_Cl fr to c l (fp_rr fr to c r)
    · refine Or.inl (fun e h => ?_)
      have h1 := fp_Cl_pr hC c (Nat.le_refl c)
      show fp_pr fr to c (fp_rr fr to c r) (fr e) ≤ l ↔ fp_pr fr to c (fp_rr fr to c r) (to e) ≤ l
      rw [h1, h1]
      exact hC e h
    · have ih := ih.resolve_left hC
      refine Or.inr ?_
      have ⟨e, h1, h2⟩ : ∃ e, e < c ∧ ¬ (fp_rr fr to c r (fr e) ≤ l ↔ fp_rr fr to c r (to e) ≤ l) := by
        apply Classical.byContradiction
        intro z
        exact hC (fun e h => Classical.byContradiction (fun y => z ⟨e, h, y⟩))
      have h3 := fp_pr_edge (fr := fr) (to := to) (q := fp_rr fr to c r) h1
      have h4 := he e h1
      have hs : ∀ v, v < n → decide (fp_rr fr to c r v ≤ l) = true → decide (fp_rr fr to c (r + 1) v ≤ l) = true := by
        intro v _ h
        have h5 := of_decide_eq_true h
        exact decide_eq_true (Nat.le_trans (fp_pr_le c v) h5)
      by_cases y : fp_rr fr to c r (fr e) ≤ l
      · have y2 : ¬ fp_rr fr to c r (to e) ≤ l := fun z => h2 ⟨fun _ => z, fun _ => y⟩
        have h6 := fp_cn2 (P := fun v => decide (fp_rr fr to c r v ≤ l)) (Q := fun v => decide (fp_rr fr to c (r + 1) v ≤ l)) (to e) (fun z => y2 (of_decide_eq_true z)) (decide_eq_true (Nat.le_trans h3.2 y)) n h4.2 hs
        omega
      · have y2 : fp_rr fr to c r (to e) ≤ l := Classical.byContradiction (fun z => h2 ⟨fun a => absurd a y, fun a => absurd a z⟩)
        have h6 := fp_cn2 (P := fun v => decide (fp_rr fr to c r v ≤ l)) (Q := fun v => decide (fp_rr fr to c (r + 1) v ≤ l)) (fr e) (fun z => y (of_decide_eq_true z)) (decide_eq_true (Nat.le_trans h3.1 y2)) n h4.1 hs
        omega
theorem fp_rr_7 {fr to : Nat → Nat} {c n : Nat} (hn : 1 ≤ n) (h7 : n ≤ 7) (he : ∀ e, e < c → fr e < n ∧ to e < n) : fp_Lab (fp_rr fr to c 7) fr to c := by
  have hC : ∀ l, fp_Cl fr to c l (fp_rr fr to c 7) := by
    intro l
    cases fp_rr_grow (l := l) hn he 7 with
    | inl h => exact h
    | inr h =>
      have := fp_cn_le (fun v => decide (fp_rr fr to c 7 v ≤ l)) n
      omega
  refine ⟨fp_rr_le 7, fun e h => ?_, fun f hf => fp_rr_f hf 7⟩
  have a := (hC (fp_rr fr to c 7 (fr e)) e h).mp (Nat.le_refl _)
  have b := (hC (fp_rr fr to c 7 (to e)) e h).mpr (Nat.le_refl _)
  omega
