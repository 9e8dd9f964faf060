/-! edges as naturals -/
def fp_cl (o : Nat → Int32) (e : Nat) : Nat := (o e).toNatClampNeg
def fp_Ok (n c : Nat) (o p : Nat → Int32) : Prop := ∀ e, e < c → (o e = nI (fp_cl o e) ∧ p e = nI (fp_cl p e)) ∧ fp_cl o e < n ∧ fp_cl p e < n ∧ fp_cl o e ≠ fp_cl p e
theorem fp_if {c d A B : Prop} (e : c ↔ d) (f : d → A) (g : ¬ d → B) : (c → A) ∧ (¬ c → B) := ⟨fun h => f (e.mp h), fun h => g (fun z => h (e.mpr z))⟩
theorem fp_mx_le {g : Nat → Nat} : ∀ m, (∀ v, v < m → g v < 7) → fp_mx g m ≤ 7 := by
  intro m
  induction m with
  | zero => intro _; exact Nat.zero_le _
  | succ m ih =>
    intro h
    have h1 := ih (fun v hv => h v (by omega))
    have h2 := h m (by omega)
    show max (fp_mx g m) (g m + 1) ≤ 7
    omega
theorem fp_cu_s1 {g fr to : Nat → Nat} {left : Int32} {e : Nat} (h : nI e = left) : fp_cu g fr to left (e + 1) = fp_cu g fr to left e := by
  show fp_cu g fr to left e + (if nI e = left then 0 else if g (fr e) = g (to e) then 0 else 1) = _
  rw [if_pos h]; rfl
theorem fp_cu_s2 {g fr to : Nat → Nat} {left : Int32} {e : Nat} (h : ¬ nI e = left) (h2 : g (fr e) = g (to e)) : fp_cu g fr to left (e + 1) = fp_cu g fr to left e := by
  show fp_cu g fr to left e + (if nI e = left then 0 else if g (fr e) = g (to e) then 0 else 1) = _
  rw [if_neg h, if_pos h2]; rfl
theorem fp_cu_s3 {g fr to : Nat → Nat} {left : Int32} {e : Nat} (h : ¬ nI e = left) (h2 : ¬ g (fr e) = g (to e)) : fp_cu g fr to left (e + 1) = fp_cu g fr to left e + 1 := by
  show fp_cu g fr to left e + (if nI e = left then 0 else if g (fr e) = g (to e) then 0 else 1) = _
  rw [if_neg h, if_neg h2]
/-! X: groupsBefore -/
theorem fx_gb4 {post : Int32 → Prop} {F E : Int32} {o p a : Nat → Int32} {g : Nat → Nat} {m : Nat} (hm : m ≤ 7) (ha : ∀ v, v < m → a v = nI (g v)) (hg : ∀ v, v < m → g v < 7) (h : post (nI (fp_mx g m))) : ∀ d v, v + d = m → wX_groupsBefore_4 post (nI m) F E o p a (d + 1) (nI (fp_mx g v)) (nI v) := by
  intro d
  induction d with
  | zero =>
    intro v hv
    have e : v = m := by omega
    subst e
    exact pk_le v v (fun _ => h) (fun z => absurd z (by omega))
  | succ d ih =>
    intro v hv
    have h1 := hg v (by omega)
    have h2 := fp_mx_le (g := g) v (fun u hu => hg u (by omega))
    refine pk_le m v (fun z => absurd z (by omega)) (fun _ => ⟨pk_in v 7 (by omega), ?_⟩)
    rw [nI_clamp (by omega), ha v (by omega)]
    refine pk_lt (g v) (fp_mx g v) (fun z => nm_r (nI_1 v) ?_) (fun z => ⟨pk_in v 7 (by omega), nm_r (nI_1 (g v)) (nm_r (nI_1 v) ?_)⟩)
    · have h3 := ih (v + 1) (by omega)
      have e : fp_mx g (v + 1) = fp_mx g v := by
        show max (fp_mx g v) (g v + 1) = _
        omega
      rw [e] at h3
      exact h3
    · have h3 := ih (v + 1) (by omega)
      have e : fp_mx g (v + 1) = g v + 1 := by
        show max (fp_mx g v) (g v + 1) = _
        omega
      rw [e] at h3
      exact h3
theorem fx_gb {post : Int32 → Prop} {F E : Int32} {o p a : Nat → Int32} {t : List Nat} {m : Nat} (hl : t.length = m) (hm : m ≤ 7) (hr : fp_Rg t) (hp : fp_Rp a t) (h : post (nI (fp_ml t))) : wpX_groupsBefore post (F, E, o, p, a) (nI m) := by
  subst hl
  rw [← fp_mx_ml] at h
  exact ⟨t.length + 1, fx_gb4 hm hp (fp_Rp_lt7 hr hm).2 h t.length 0 (by omega)⟩
/-! X: joiningGroups -/
theorem fx_jg5 {post : Int32 → Prop} {F E : Int32} {o p a : Nat → Int32} {g : Nat → Nat} {n c : Nat} {left : Int32} (hn : n ≤ 7) (hc : c ≤ 17) (ok : fp_Ok n c o p) (ha : ∀ v, v < n → a v = nI (g v)) (hg : ∀ v, v < n → g v < 7) (h : post (nI (fp_cu g (fp_cl o) (fp_cl p) left c))) : ∀ d e, e + d = c → wX_joiningGroups_5 post (nI c) left F E o p a (d + 1) (nI (fp_cu g (fp_cl o) (fp_cl p) left e)) (nI e) := by
  intro d
  induction d with
  | zero =>
    intro v hv
    have e : v = c := by omega
    subst e
    exact pk_le v v (fun _ => h) (fun z => absurd z (by omega))
  | succ d ih =>
    intro e he
    have h3 := ih (e + 1) (by omega)
    refine pk_le c e (fun z => absurd z (by omega)) (fun _ => ?_)
    by_cases z : nI e = left
    · refine br_t z (nm_r (nI_1 e) ?_)
      rw [fp_cu_s1 z] at h3
      exact h3
    · refine br_f z ?_
      rw [nI_clamp (by omega)]
      obtain ⟨⟨o1, p1⟩, o2, p2, op⟩ := ok e (by omega)
      have ho : a (o e).toNatClampNeg = nI (g (fp_cl o e)) := ha _ o2
      have hp : a (p e).toNatClampNeg = nI (g (fp_cl p e)) := ha _ p2
      have g1 := hg _ o2
      have g2 := hg _ p2
      refine ⟨pk_in e 17 (by omega), pk_in (fp_cl o e) 7 (by omega) o1, pk_in e 17 (by omega), pk_in (fp_cl p e) 7 (by omega) p1, ?_⟩
      rw [ho, hp]
      refine pk_eq (g (fp_cl o e)) (g (fp_cl p e)) (fun y => nm_r (nI_1 e) ?_) (fun y => nm_r (nI_1 _) (nm_r (nI_1 e) ?_))
      · rw [fp_cu_s2 z y] at h3
        exact h3
      · rw [fp_cu_s3 z y] at h3
        exact h3
theorem fx_jg {post : Int32 → Prop} {F E : Int32} {o p a : Nat → Int32} {t : List Nat} {n c : Nat} {left : Int32} (hl : t.length = n) (hn : n ≤ 7) (hc : c ≤ 17) (ok : fp_Ok n c o p) (hr : fp_Rg t) (hp : fp_Rp a t) (h : post (nI (fp_cu (fp_lk t) (fp_cl o) (fp_cl p) left c))) : wpX_joiningGroups post (F, E, o, p, a) (nI c) left := by
  subst hl
  exact ⟨c + 1, fx_jg5 hn hc ok hp (fp_Rp_lt7 hr hn).2 h c 0 (by omega)⟩
/-! X: putAllInOneGroup -/
theorem fx_pa2 {post : SX → Prop} {n : Nat} {E : Int32} {o p : Nat → Int32} (hn : n ≤ 7) (h : ∀ a', (∀ v, v < n → a' v = 0) → post (nI n, E, o, p, a')) : ∀ d v a, v + d = n → (∀ u, u < v → a u = 0) → wX_putAllInOneGroup_2 post (nI n) E (d + 1) (nI v) o p a := by
  intro d
  induction d with
  | zero =>
    intro v a hv ha
    have e : v = n := by omega
    subst e
    exact pk_le v v (fun _ => h a ha) (fun z => absurd z (by omega))
  | succ d ih =>
    intro v a hv ha
    refine pk_le n v (fun z => absurd z (by omega)) (fun _ => ⟨pk_in v 7 (by omega), ?_⟩)
    rw [nI_clamp (by omega)]
    refine nm_e (nm_r (nI_1 v) (ih (v + 1) _ (by omega) (fun u hu => ?_)))
    by_cases e : u = v
    · rw [e, pk_us]
    · rw [pk_un e, ha u (by omega)]
theorem fx_pa {post : SX → Prop} {n : Nat} {E : Int32} {o p a : Nat → Int32} (hn : n ≤ 7) (h : ∀ a', fp_Rp a' (fp_zs n) → post (nI n, E, o, p, a')) : wpX_putAllInOneGroup post (nI n, E, o, p, a) := by
  refine ⟨n + 1, fx_pa2 hn (fun a' ha => h a' (fun v hv => ?_)) n 0 a (by omega) (fun u hu => absurd hu (by omega))⟩
  rw [fp_zs_len] at hv
  rw [ha v hv, fp_zs_lk]
  rfl
/-! X: goToNextGrouping -/
theorem fp_inc_1 (x : Nat) : fp_inc [x] = none := (if_neg (Nat.not_lt_zero x)).trans rfl
theorem fp_inc_t {x : Nat} {t : List Nat} (h : x < fp_ml t) : fp_inc (x :: t) = some ((x + 1) :: t) := if_pos h
theorem fp_inc_f {x : Nat} {t : List Nat} (h : ¬ x < fp_ml t) : fp_inc (x :: t) = (match fp_inc t with
    | none => none
    | some s => some (0 :: s)) := if_neg h
theorem fp_inc_fs {x : Nat} {t s : List Nat} (h : ¬ x < fp_ml t) (e : fp_inc t = some s) : fp_inc (x :: t) = some (0 :: s) := by rw [fp_inc_f h, e]
theorem fp_inc_fn {x : Nat} {t : List Nat} (h : ¬ x < fp_ml t) (e : fp_inc t = none) : fp_inc (x :: t) = none := by rw [fp_inc_f h, e]
theorem fx_gn7 {post : Int32 → SX → Prop} {n : Nat} {E : Int32} {o p : Nat → Int32} (hn : n ≤ 7) : ∀ (t : List Nat) (x d : Nat) (a : Nat → Int32), t.length + 1 + d = n → fp_Rg (x :: t) → fp_Rp a (x :: t) → (∀ v, t.length + 1 ≤ v → v < n → a v = 0) → (∀ w' a', fp_inc (x :: t) = some w' → fp_Rp a' (fp_zp d w') → post 1 (nI n, E, o, p, a')) → (fp_inc (x :: t) = none → ∀ a', post 0 (nI n, E, o, p, a')) → wX_goToNextGrouping_7 post (nI n) E (t.length + 1) (nI t.length) o p a := by
  intro t
  induction t with
  | nil =>
    intro x d a hd hr hp hz h1 h0
    exact pk_le 0 0 (fun _ => h0 (fp_inc_1 x) a) (fun z => absurd z (by omega))
  | cons y t ih =>
    intro x d a hd hr hp hz h1 h0
    have hL : (y :: t).length = t.length + 1 := rfl
    rw [hL] at hd hz ⊢
    obtain ⟨hx, hr2⟩ := hr
    have hp2 := fp_Rp_tl hp
    have hp3 : a (t.length + 1) = nI x := fp_Rp_hd hp
    have b1 := fp_Rp_lt7 hr2 (by omega)
    refine pk_le (t.length + 1) 0 (fun z => absurd z (by omega)) (fun _ => ⟨pk_in (t.length + 1) 7 (by omega), ?_⟩)
    refine fx_gb (t := y :: t) hL (by omega) hr2 hp2 ?_
    rw [nI_clamp (by omega), hp3]
    have b2 := b1.1
    refine pk_le (fp_ml (y :: t)) x (fun z => ⟨pk_in (t.length + 1) 7 (by omega), nm_e (nm_r (pk_m1 t.length) ?_)⟩) (fun z => ⟨pk_in (t.length + 1) 7 (by omega), pk_in (t.length + 1) 7 (by omega), nm_r (congrArg (upd a (t.length + 1)) (nI_1 x)) ?_⟩)
    · refine ih y (d + 1) (upd a (t.length + 1) 0) (by omega) hr2 (fun v hv => ?_) (fun v hv1 hv2 => ?_) (fun w' a' hw ha => ?_) (fun hw a' => ?_)
      · have hv' : v < t.length + 1 := hv
        rw [pk_un (by omega)]
        exact hp2 v hv
      · by_cases e : v = t.length + 1
        · rw [e, pk_us]
        · rw [pk_un e, hz v (by omega) hv2]
      · exact h1 (0 :: w') a' (fp_inc_fs (by omega) hw) ha
      · exact h0 (fp_inc_fn (by omega) hw) a'
    · refine h1 _ _ (fp_inc_t z) (fp_Rp_zp (fp_Rp_up hp) (fun v hv1 hv2 => ?_))
      have hv1' : t.length + 1 + 1 ≤ v := hv1
      have hv2' : v < t.length + 1 + 1 + d := hv2
      rw [pk_un (show v ≠ t.length + 1 from by omega)]
      exact hz v hv1' (by omega)
theorem fx_gn {post : Int32 → SX → Prop} {n : Nat} {E : Int32} {o p a : Nat → Int32} {s : List Nat} (h1n : 1 ≤ n) (hn : n ≤ 7) (hl : s.length = n) (hr : fp_Rg s) (hp : fp_Rp a s) (h1 : ∀ s' a', fp_inc s = some s' → fp_Rp a' s' → post 1 (nI n, E, o, p, a')) (h0 : fp_inc s = none → ∀ a', post 0 (nI n, E, o, p, a')) : wpX_goToNextGrouping post (nI n, E, o, p, a) := by
  cases s with
  | nil => exact absurd hl (by show ¬ 0 = n; omega)
  | cons x t =>
    have hl' : t.length + 1 = n := hl
    subst hl'
    exact nm_r (nI_pred t.length) ⟨t.length + 1, fx_gn7 hn t x 0 a rfl hr hp (fun v h h' => absurd h (by omega)) h1 h0⟩
/-! X: mostHeld -/
theorem fx_mh10 {post : Int32 → SX → Prop} {n k c : Nat} {E : Int32} {o p : Nat → Int32} {left : Int32} (h2 : 2 ≤ n) (h7 : n ≤ 7) (hc : c ≤ 17) (hk : k ≤ 16) (ok : fp_Ok n c o p) : ∀ (f i : Nat) (s : List Nat) (r : Nat) (a : Nat → Int32), i + f = 877 → s.length = n → fp_Rg s → fp_Rp a s → r ≤ 1000 → (∀ a', post (nI (fp_mf (fp_val n k (fp_cl o) (fp_cl p) left c) (fp_seq f s) r)) (nI n, E, o, p, a')) → wX_mostHeld_10 post (nI k) (nI c) left (f + 1) (nI r) (nI i) (nI n) E o p a := by
  intro f
  induction f with
  | zero =>
    intro i s r a hi hl hr hp hr1 h
    exact pk_le 877 i (fun _ => h a) (fun z => absurd z (by omega))
  | succ f ih =>
    intro i s r a hi hl hr hp hr1 h
    have b1 := fp_ml_le s hr
    have b2 := fp_cu_le (fp_lk s) (fp_cl o) (fp_cl p) left c
    have b3 : k * (n - fp_ml s) ≤ 16 * 7 := Nat.mul_le_mul hk (by omega)
    have b4 : fp_val n k (fp_cl o) (fp_cl p) left c s ≤ 200 := by
      show k * (n - fp_ml s) + fp_cu (fp_lk s) (fp_cl o) (fp_cl p) left c ≤ 200
      omega
    have key : ∀ r', r' ≤ 1000 → (if fp_val n k (fp_cl o) (fp_cl p) left c s < r then fp_val n k (fp_cl o) (fp_cl p) left c s else r) = r' → wX_mostHeld_57 post (wX_mostHeld_10 post (nI k) (nI c) left (f + 1)) (nI k) (nI c) left (nI r') (nI i) (nI n) E o p a := by
      intro r' hr' e
      have h' : ∀ a', post (nI (fp_mf (fp_val n k (fp_cl o) (fp_cl p) left c) (match fp_inc s with
        | none => []
        | some s' => fp_seq f s') r')) (nI n, E, o, p, a') := by
        intro a'
        have h3 := h a'
        rw [← e]
        exact h3
      refine fx_gn (s := s) (by omega) h7 hl hr hp (fun s' a' hs ha => ?_) (fun hs a' => ?_)
      · rw [hs] at h'
        have ⟨c1, c2⟩ := fp_inc_Rg s s' hr hs
        exact br_f (by decide) (nm_r (nI_1 i) (ih (i + 1) s' r' a' (by omega) (by omega) c1 ha hr' h'))
      · rw [hs] at h'
        exact br_t rfl (h' a')
    refine pk_le 877 i (fun z => absurd z (by omega)) (fun _ => fx_gb hl h7 hr hp (fx_jg hl h7 hc ok hr hp (nm_r (e' := nI (fp_val n k (fp_cl o) (fp_cl p) left c s)) ?_ ?_)))
    · rw [pk_sub (by omega), pk_mul, nI_add]
      rfl
    · refine pk_le r (fp_val n k (fp_cl o) (fp_cl p) left c s) (fun z => key _ hr1 (if_neg (by omega))) (fun z => key _ (by omega) (if_pos z))
theorem fx_mh {post : Int32 → SX → Prop} {n k c : Nat} {E : Int32} {o p a : Nat → Int32} {left : Int32} (h2 : 2 ≤ n) (h7 : n ≤ 7) (hc : c ≤ 17) (hk : k ≤ 16) (ok : fp_Ok n c o p) (h : ∀ a', post (nI (fp_MH n k (fp_cl o) (fp_cl p) left c)) (nI n, E, o, p, a')) : wpX_mostHeld post (nI n, E, o, p, a) (nI k) (nI c) left := by
  refine fx_pa h7 (fun a' ha => ⟨877 + 1, ?_⟩)
  exact fx_mh10 h2 h7 hc hk ok 877 0 (fp_zs n) c a' rfl (fp_zs_len n) (fp_zs_Rg n) ha (by omega) h
