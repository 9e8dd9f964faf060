/-! between -/
def fp_bt (o p : Nat → Int32) (v1 v2 : Int32) : Nat → Nat
  | 0 => 0
  | e + 1 => fp_bt o p v1 v2 e + (if (o e = v1 ∧ p e = v2) ∨ (o e = v2 ∧ p e = v1) then 1 else 0)
theorem fp_bt_t {o p : Nat → Int32} {v1 v2 : Int32} {e : Nat} (h : (o e = v1 ∧ p e = v2) ∨ (o e = v2 ∧ p e = v1)) : fp_bt o p v1 v2 (e + 1) = fp_bt o p v1 v2 e + 1 := by
  show fp_bt o p v1 v2 e + (if (o e = v1 ∧ p e = v2) ∨ (o e = v2 ∧ p e = v1) then 1 else 0) = _
  rw [if_pos h]
theorem fp_bt_f {o p : Nat → Int32} {v1 v2 : Int32} {e : Nat} (h : ¬ ((o e = v1 ∧ p e = v2) ∨ (o e = v2 ∧ p e = v1))) : fp_bt o p v1 v2 (e + 1) = fp_bt o p v1 v2 e := by
  show fp_bt o p v1 v2 e + (if (o e = v1 ∧ p e = v2) ∨ (o e = v2 ∧ p e = v1) then 1 else 0) = _
  rw [if_neg h]
  rfl
theorem fp_bt_0 {n c : Nat} {o p : Nat → Int32} {v1 v2 : Int32} (ok : fp_Ok n c o p) (h : ¬ fp_Pair n v1 v2) : ∀ e, e ≤ c → fp_bt o p v1 v2 e = 0 := by
  intro e
  induction e with
  | zero => intro _; rfl
  | succ e ih =>
    intro he
    obtain ⟨⟨o1, p1⟩, o2, p2, op⟩ := ok e (by omega)
    rw [fp_bt_f, ih (by omega)]
    intro z
    rcases z with ⟨z1, z2⟩ | ⟨z1, z2⟩
    · exact h ⟨fp_cl o e, fp_cl p e, by rw [← z1]; exact o1, by rw [← z2]; exact p1, o2, p2, op⟩
    · exact h ⟨fp_cl p e, fp_cl o e, by rw [← z2]; exact p1, by rw [← z1]; exact o1, p2, o2, fun z => op z.symm⟩
theorem fx_bt70 {post : Int32 → Prop} {J5 : Int32 → Int32 → Prop} {x1 x2 x3 x4 x5 z0 F E : Int32} {o p a : Nat → Int32} (h0 : x5 = 0 → z0 = 0 → J5 x3 (x4 + 1)) (h1 : ¬ (x5 = 0 ∧ z0 = 0) → J5 (x3 + 1) (x4 + 1)) : wX_between_70 post J5 x1 x2 x3 x4 x5 z0 F E o p a :=
  br_c (fun q => br_c (fun q2 => nm_e (h0 q q2)) (fun q2 => nm_e (nm_e (h1 (fun z => q2 z.2))))) (fun q => nm_e (nm_e (h1 (fun z => q z.1))))
theorem fx_bt41 {post : Int32 → Prop} {J5 : Int32 → Int32 → Prop} {x1 x2 x3 z0 F E : Int32} {o p a : Nat → Int32} {e : Nat} (he : e < 17) (h0 : z0 = 0 → ¬ (o e = x2 ∧ p e = x1) → J5 x3 (nI e + 1)) (h1 : (¬ z0 = 0 ∨ (o e = x2 ∧ p e = x1)) → J5 (x3 + 1) (nI e + 1)) : wX_between_41 post J5 x1 x2 x3 (nI e) z0 F E o p a := by
  refine ⟨pk_in e 17 he, ?_⟩
  rw [nI_clamp (by omega)]
  refine br_c (fun q => ⟨pk_in e 17 he, br_c (fun q2 => ?_) (fun q2 => ?_)⟩) (fun q => ?_)
  · exact fx_bt70 (fun _ z => absurd z (by decide)) (fun _ => h1 (Or.inr ⟨q, q2⟩))
  · unfold wX_between_69
    exact fx_bt70 (fun z _ => h0 z (fun y => q2 y.2)) (fun z => h1 (Or.inl (fun y => z ⟨y, rfl⟩)))
  · unfold wX_between_69
    exact fx_bt70 (fun z _ => h0 z (fun y => q y.1)) (fun z => h1 (Or.inl (fun y => z ⟨y, rfl⟩)))
theorem fx_bt5 {post : Int32 → Prop} {F v1 v2 : Int32} {o p a : Nat → Int32} {c : Nat} (hc : c ≤ 16) (h : post (nI (fp_bt o p v1 v2 c))) : ∀ d e, e + d = c → wX_between_5 post v1 v2 F (nI c) o p a (d + 1) (nI (fp_bt o p v1 v2 e)) (nI e) := by
  intro d
  induction d with
  | zero =>
    intro v hv
    have e : v = c := by omega
    subst e
    exact pk_le v v (fun _ => h) (fun z => absurd z (by omega))
  | succ d ih =>
    intro e he
    have h3 := ih (e + 1) (by omega)
    have k0 : ¬ ((o e = v1 ∧ p e = v2) ∨ (o e = v2 ∧ p e = v1)) → wX_between_5 post v1 v2 F (nI c) o p a (d + 1) (nI (fp_bt o p v1 v2 e)) (nI e + 1) := by
      intro z
      rw [fp_bt_f z] at h3
      rw [nI_1]
      exact h3
    have k1 : ((o e = v1 ∧ p e = v2) ∨ (o e = v2 ∧ p e = v1)) → wX_between_5 post v1 v2 F (nI c) o p a (d + 1) (nI (fp_bt o p v1 v2 e) + 1) (nI e + 1) := by
      intro z
      rw [fp_bt_t z] at h3
      rw [nI_1, nI_1]
      exact h3
    refine pk_le c e (fun z => absurd z (by omega)) (fun _ => ⟨pk_in e 17 (by omega), ?_⟩)
    rw [nI_clamp (by omega)]
    refine br_c (fun q => ⟨pk_in e 17 (by omega), br_c (fun q2 => ?_) (fun q2 => ?_)⟩) (fun q => ?_)
    · exact fx_bt41 (by omega) (fun z _ => absurd z (by decide)) (fun _ => k1 (Or.inl ⟨q, q2⟩))
    · unfold wX_between_40
      exact fx_bt41 (by omega) (fun _ z => k0 (fun y => y.elim (fun y => q2 y.2) z)) (fun z => k1 (Or.inr (z.resolve_left (fun y => y rfl))))
    · unfold wX_between_40
      exact fx_bt41 (by omega) (fun _ z => k0 (fun y => y.elim (fun y => q y.1) z)) (fun z => k1 (Or.inr (z.resolve_left (fun y => y rfl))))
theorem fy_bt72 {post : Int32 → Prop} {J5 : Int32 → Int32 → Prop} {x1 x2 x3 x4 z0 F E : Int32} {o p b l : Nat → Int32} (h0 : z0 = 0 → J5 x3 (x4 + 1)) (h1 : ¬ z0 = 0 → J5 (x3 + 1) (x4 + 1)) : wY_between_72 post J5 x1 x2 x3 x4 z0 F E o p b l :=
  br_c (fun q => nm_e (h0 q)) (fun q => nm_e (nm_e (h1 q)))
theorem fy_bt45 {post : Int32 → Prop} {J5 : Int32 → Int32 → Prop} {x1 x2 x3 F E : Int32} {o p b l : Nat → Int32} {e : Nat} (he : e < 17) (h0 : ¬ (o e = x2 ∧ p e = x1) → J5 x3 (nI e + 1)) (h1 : (o e = x2 ∧ p e = x1) → J5 (x3 + 1) (nI e + 1)) : wY_between_45 post J5 x1 x2 x3 (nI e) F E o p b l := by
  refine ⟨pk_in e 17 he, ?_⟩
  rw [nI_clamp (by omega)]
  refine br_c (fun q => ⟨pk_in e 17 he, br_c (fun q2 => ?_) (fun q2 => ?_)⟩) (fun q => ?_)
  · unfold wY_between_67
    exact fy_bt72 (fun z => absurd z (by decide)) (fun _ => h1 ⟨q, q2⟩)
  · unfold wY_between_71
    exact fy_bt72 (fun _ => h0 (fun y => q2 y.2)) (fun z => absurd rfl z)
  · unfold wY_between_71
    exact fy_bt72 (fun _ => h0 (fun y => q y.1)) (fun z => absurd rfl z)
theorem fy_bt5 {post : Int32 → Prop} {n : Nat} {v1 v2 : Int32} {o p b l : Nat → Int32} {c : Nat} (hY : fp_YP n v1 v2 1) (hc : c ≤ 16) (h : post (nI (fp_bt o p v1 v2 c))) : ∀ d e, e + d = c → wY_between_5 post v1 v2 (nI n) (nI c) o p b l (d + 1) (nI (fp_bt o p v1 v2 e)) (nI e) := by
  intro d
  induction d with
  | zero =>
    intro v hv
    have e : v = c := by omega
    subst e
    exact pk_le v v (fun _ => h) (fun z => absurd z (by omega))
  | succ d ih =>
    intro e he
    have h3 := ih (e + 1) (by omega)
    have k0 : ¬ ((o e = v1 ∧ p e = v2) ∨ (o e = v2 ∧ p e = v1)) → wY_between_5 post v1 v2 (nI n) (nI c) o p b l (d + 1) (nI (fp_bt o p v1 v2 e)) (nI e + 1) := by
      intro z
      rw [fp_bt_f z] at h3
      rw [nI_1]
      exact h3
    have k1 : ((o e = v1 ∧ p e = v2) ∨ (o e = v2 ∧ p e = v1)) → wY_between_5 post v1 v2 (nI n) (nI c) o p b l (d + 1) (nI (fp_bt o p v1 v2 e) + 1) (nI e + 1) := by
      intro z
      rw [fp_bt_t z] at h3
      rw [nI_1, nI_1]
      exact h3
    refine pk_le c e (fun z => absurd z (by omega)) (fun _ => ?_)
    refine hY _ _ _ _ _ _ ?_
    refine br_f (by decide) ⟨pk_in e 17 (by omega), ?_⟩
    rw [nI_clamp (by omega)]
    refine br_c (fun q => ⟨pk_in e 17 (by omega), br_c (fun q2 => ?_) (fun q2 => ?_)⟩) (fun q => ?_)
    · unfold wY_between_67
      exact fy_bt72 (fun z => absurd z (by decide)) (fun _ => k1 (Or.inl ⟨q, q2⟩))
    · exact fy_bt45 (by omega) (fun z => k0 (fun y => y.elim (fun y => q2 y.2) z)) (fun z => k1 (Or.inr z))
    · exact fy_bt45 (by omega) (fun z => k0 (fun y => y.elim (fun y => q y.1) z)) (fun z => k1 (Or.inr z))
theorem i_vc_between {k : Nat} {u : SX} {v : SY} (I : i_Rel k u v) (hk : k + 4 ≤ 2049) (v1 : Int32) (v2 : Int32) : wpX_between (fun r => wpY_between (fun r' => r' = r ∧ i_Rel (k + 4) u v) v v1 v2) u v1 v2 := by
  obtain ⟨n, c, o, p, a, b, l, rfl, rfl, h2, h7, hc, ok⟩ := I
  refine ⟨c + 1, fx_bt5 hc ?_ c 0 (by omega)⟩
  rcases fp_pair n h7 v1 v2 with ⟨_, hY, hP⟩ | ⟨_, hY, hP⟩
  · rw [fp_bt_0 ok hP c (Nat.le_refl c)]
    refine ⟨1, ?_⟩
    refine br_c (fun _ => ⟨rfl, fp_rel a b l h2 h7 hc ok⟩) (fun _ => ?_)
    refine hY _ _ _ _ _ _ ?_
    exact br_t rfl ⟨rfl, fp_rel a b l h2 h7 hc ok⟩
  · exact ⟨c + 1, fy_bt5 hY hc ⟨rfl, fp_rel a b l h2 h7 hc ok⟩ c 0 (by omega)⟩
/-! hold -/
theorem fp_MH_17 {n k : Nat} {fr to : Nat → Nat} {left : Int32} {c : Nat} (hc : c ≤ 17) : fp_MH n k fr to left c < 2 ^ 31 := by
  have := fp_MH_c (n := n) (k := k) (fr := fr) (to := to) (left := left) (c := c)
  omega
theorem fy_hold {post : Int32 → SY → Prop} {n k c : Nat} {o p b l : Nat → Int32} (h2 : 2 ≤ n) (h7 : n ≤ 7) (hc : c ≤ 16) (hk : k ≤ 16) (ok : fp_Ok n c o p) (hN : fp_YN (nI k) 1) (h : ∀ b' l', post (nI (fp_MH n k (fp_cl o) (fp_cl p) (-1) c)) (nI n, nI c, o, p, b', l')) : wpY_hold post (nI n, nI c, o, p, b, l) (nI k) := by
  unfold wpY_hold
  dsimp only
  refine hN _ _ _ _ _ _ _ ?_
  refine br_f (by decide) ?_
  refine fy_fc h2 h7 (by omega) ok (fun b' l' hl => ?_)
  exact fy_bd h2 h7 (by omega) hk hl (h b' l')
theorem i_vc_hold {k : Nat} {u : SX} {v : SY} (I : i_Rel k u v) (hk : k + 4 ≤ 2049) (v1 : Int32) : wpX_hold (fun r u' => wpY_hold (fun r' v' => r' = r ∧ i_Rel (k + 4) u' v') v v1) u v1 := by
  obtain ⟨n, c, o, p, a, b, l, rfl, rfl, h2, h7, hc, ok⟩ := I
  unfold wpX_hold
  dsimp only
  rcases fp_num v1 with ⟨hX, hY⟩ | ⟨hX, hY, j, hj, rfl⟩
  · refine hX _ _ _ _ _ _ ?_
    refine br_t rfl ?_
    unfold wpY_hold
    dsimp only
    refine hY _ _ _ _ _ _ _ ?_
    exact br_t rfl ⟨rfl, fp_rel a b l h2 h7 hc ok⟩
  · refine hX _ _ _ _ _ _ ?_
    refine br_f (by decide) ?_
    refine fx_mh h2 h7 (by omega) hj ok (fun a' => ?_)
    exact fy_hold h2 h7 hc hj ok hY (fun b' l' => ⟨rfl, fp_rel a' b' l' h2 h7 hc ok⟩)
/-! needed -/
def fp_nd (H : Nat → Nat) (c : Nat) : Nat → Nat → Nat
  | 0, k => k
  | d + 1, k => if c ≤ H k then k else fp_nd H c d (k + 1)
theorem fx_nd2 {post : Int32 → SX → Prop} {n c : Nat} {o p : Nat → Int32} (h2 : 2 ≤ n) (h7 : n ≤ 7) (hc : c ≤ 16) (ok : fp_Ok n c o p) : ∀ d j a, j + d = 16 → (∀ a', post (nI (fp_nd (fun k => fp_MH n k (fp_cl o) (fp_cl p) (-1) c) c d j)) (nI n, nI c, o, p, a')) → wX_needed_2 post (d + 1) (nI j) (nI n) (nI c) o p a := by
  intro d
  induction d with
  | zero =>
    intro j a hj h
    have e : j = 16 := by omega
    subst e
    exact pk_le 16 16 (fun _ => h a) (fun z => absurd z (by omega))
  | succ d ih =>
    intro j a hj h
    have m1 := fp_MH_c (n := n) (k := j) (fr := fp_cl o) (to := fp_cl p) (left := -1) (c := c)
    refine pk_le 16 j (fun z => absurd z (by omega)) (fun _ => ?_)
    refine fx_mh h2 h7 (by omega) (by omega) ok (fun a' => ?_)
    refine pk_eq (fp_MH n j (fp_cl o) (fp_cl p) (-1) c) c (fun z => ?_) (fun z => nm_r (nI_1 j) (ih (j + 1) a' (by omega) (fun a2 => ?_)))
    · have h3 := h a'
      have e : fp_nd (fun k => fp_MH n k (fp_cl o) (fp_cl p) (-1) c) c (d + 1) j = j := if_pos (Nat.le_of_eq z.symm)
      rw [e] at h3
      exact h3
    · have h3 := h a2
      have e : fp_nd (fun k => fp_MH n k (fp_cl o) (fp_cl p) (-1) c) c (d + 1) j = fp_nd (fun k => fp_MH n k (fp_cl o) (fp_cl p) (-1) c) c d (j + 1) := if_neg (by show ¬ c ≤ fp_MH n j (fp_cl o) (fp_cl p) (-1) c; omega)
      rw [e] at h3
      exact h3
theorem fy_nd11 {post : Int32 → SY → Prop} {n c : Nat} {o p b l : Nat → Int32} (h2 : 2 ≤ n) (h7 : n ≤ 7) (hc : c ≤ 16) (hl : ∀ m, m < 8 → l m = nI (fp_LS n (fp_cl o) (fp_cl p) (-1) c m)) : ∀ d j, j + d = 16 → post (nI (fp_nd (fun k => fp_MH n k (fp_cl o) (fp_cl p) (-1) c) c d j)) (nI n, nI c, o, p, b, l) → wY_needed_11 post (nI n) (nI c) o p b l (d + 1) (nI j) := by
  intro d
  induction d with
  | zero =>
    intro j hj h
    have e : j = 16 := by omega
    subst e
    exact pk_le 16 16 (fun _ => h) (fun z => absurd z (by omega))
  | succ d ih =>
    intro j hj h
    have m1 := fp_MH_c (n := n) (k := j) (fr := fp_cl o) (to := fp_cl p) (left := -1) (c := c)
    refine pk_le 16 j (fun z => absurd z (by omega)) (fun _ => ?_)
    refine fy_bd h2 h7 (by omega) (by omega) hl ?_
    refine pk_le c (fp_MH n j (fp_cl o) (fp_cl p) (-1) c) (fun z => ?_) (fun z => nm_r (nI_1 j) (ih (j + 1) (by omega) ?_))
    · have e : fp_nd (fun k => fp_MH n k (fp_cl o) (fp_cl p) (-1) c) c (d + 1) j = j := if_pos z
      rw [e] at h
      exact h
    · have e : fp_nd (fun k => fp_MH n k (fp_cl o) (fp_cl p) (-1) c) c (d + 1) j = fp_nd (fun k => fp_MH n k (fp_cl o) (fp_cl p) (-1) c) c d (j + 1) := if_neg (by show ¬ c ≤ fp_MH n j (fp_cl o) (fp_cl p) (-1) c; omega)
      rw [e] at h
      exact h
theorem i_vc_needed {k : Nat} {u : SX} {v : SY} (I : i_Rel k u v) (hk : k + 4 ≤ 2049) : wpX_needed (fun r u' => wpY_needed (fun r' v' => r' = r ∧ i_Rel (k + 4) u' v') v) u := by
  obtain ⟨n, c, o, p, a, b, l, rfl, rfl, h2, h7, hc, ok⟩ := I
  refine ⟨16 + 1, fx_nd2 h2 h7 hc ok 16 0 a rfl (fun a' => ?_)⟩
  unfold wpY_needed
  dsimp only
  refine fy_fc h2 h7 (by omega) ok (fun b' l' hl => ?_)
  exact ⟨16 + 1, fy_nd11 h2 h7 hc hl 16 0 rfl ⟨rfl, fp_rel a' b' l' h2 h7 hc ok⟩⟩
/-! trees -/
def fp_tx (H : Nat → Nat) (n : Nat) : Nat → Nat
  | 0 => 0
  | k + 1 => if H (k + 1) = (k + 1) * (n - 1) then k + 1 else fp_tx H n k
def fp_ty (H : Nat → Nat) (n : Nat) : Nat → Nat → Nat
  | 0, k => k
  | d + 1, k => if H (k + 1) = (k + 1) * (n - 1) then fp_ty H n d (k + 1) else k
theorem fp_tx_skip {H : Nat → Nat} {n k : Nat} : ∀ d, (∀ j, k < j → j ≤ k + d → ¬ H j = j * (n - 1)) → fp_tx H n (k + d) = fp_tx H n k := by
  intro d
  induction d with
  | zero => intro _; rfl
  | succ d ih =>
    intro h
    have e : fp_tx H n (k + d + 1) = fp_tx H n (k + d) := if_neg (h (k + d + 1) (by omega) (by omega))
    show fp_tx H n (k + d + 1) = _
    rw [e, ih (fun j h1 h2 => h j h1 (by omega))]
theorem fp_tx_at {H : Nat → Nat} {n k : Nat} (h : H k = k * (n - 1)) : fp_tx H n k = k := by
  cases k with
  | zero => rfl
  | succ k => exact if_pos h
theorem fp_txy {H : Nat → Nat} {n c : Nat} (hm : ∀ k j, H k = k * (n - 1) → j ≤ k → H j = j * (n - 1)) (hb : ∀ k, H k = k * (n - 1) → k ≤ c) (hc : c ≤ 16) : ∀ d k, k + d = 16 → H k = k * (n - 1) → fp_ty H n d k = fp_tx H n c := by
  intro d
  induction d with
  | zero =>
    intro k hk h
    have h1 := hb k h
    have e : c = k := by omega
    rw [e, fp_tx_at h]
    rfl
  | succ d ih =>
    intro k hk h
    show (if H (k + 1) = (k + 1) * (n - 1) then fp_ty H n d (k + 1) else k) = _
    by_cases z : H (k + 1) = (k + 1) * (n - 1)
    · rw [if_pos z]
      exact ih (k + 1) (by omega) z
    · rw [if_neg z]
      have h1 := hb k h
      have e := fp_tx_skip (H := H) (n := n) (k := k) (c - k) (fun j h1 h2 y => z (hm j (k + 1) y h1))
      rw [show k + (c - k) = c from by omega, fp_tx_at h] at e
      exact e.symm
theorem fp_mul7 {k n : Nat} (hk : k ≤ 16) (h7 : n ≤ 7) : k * (n - 1) ≤ 16 * 7 := Nat.mul_le_mul hk (by omega)
theorem fx_tr5 {post : Int32 → SX → Prop} {n c : Nat} {o p : Nat → Int32} (h2 : 2 ≤ n) (h7 : n ≤ 7) (hc : c ≤ 16) (ok : fp_Ok n c o p) : ∀ j a, j ≤ 16 → (∀ a', post (nI (fp_tx (fun k => fp_MH n k (fp_cl o) (fp_cl p) (-1) c) n j)) (nI n, nI c, o, p, a')) → wX_trees_5 post (j + 1) (nI j) (nI n) (nI c) o p a := by
  intro j
  induction j with
  | zero =>
    intro a hj h
    exact pk_le 0 0 (fun _ => h a) (fun z => absurd z (by omega))
  | succ j ih =>
    intro a hj h
    have m1 := fp_MH_c (n := n) (k := j + 1) (fr := fp_cl o) (to := fp_cl p) (left := -1) (c := c)
    have m2 := fp_mul7 (k := j + 1) (n := n) hj h7
    refine pk_le (j + 1) 0 (fun z => absurd z (by omega)) (fun _ => ?_)
    refine fx_mh h2 h7 (by omega) (by omega) ok (fun a' => ?_)
    have e1 : nI (j + 1) * (nI n - 1) = nI ((j + 1) * (n - 1)) := by
      rw [fp_n1, pk_sub (by omega), pk_mul]
    refine pk_eq (fp_MH n (j + 1) (fp_cl o) (fp_cl p) (-1) c) ((j + 1) * (n - 1)) (fun z => ?_) (fun z => nm_r (pk_m1 j) (ih a' (by omega) (fun a2 => ?_))) rfl e1 (by omega) (by omega)
    · have h3 := h a'
      have e : fp_tx (fun k => fp_MH n k (fp_cl o) (fp_cl p) (-1) c) n (j + 1) = j + 1 := if_pos z
      rw [e] at h3
      exact h3
    · have h3 := h a2
      have e : fp_tx (fun k => fp_MH n k (fp_cl o) (fp_cl p) (-1) c) n (j + 1) = fp_tx (fun k => fp_MH n k (fp_cl o) (fp_cl p) (-1) c) n j := if_neg z
      rw [e] at h3
      exact h3
theorem fy_tr11 {post : Int32 → SY → Prop} {n c : Nat} {o p b l : Nat → Int32} (h2 : 2 ≤ n) (h7 : n ≤ 7) (hc : c ≤ 16) (hl : ∀ m, m < 8 → l m = nI (fp_LS n (fp_cl o) (fp_cl p) (-1) c m)) : ∀ d j, j + d = 16 → post (nI (fp_ty (fun k => fp_MH n k (fp_cl o) (fp_cl p) (-1) c) n d j)) (nI n, nI c, o, p, b, l) → wY_trees_11 post (nI n) (nI c) o p b l (d + 1) (nI j) := by
  intro d
  induction d with
  | zero =>
    intro j hj h
    exact pk_le 16 j (fun _ => h) (fun z => absurd z (by omega))
  | succ d ih =>
    intro j hj h
    have m1 := fp_MH_c (n := n) (k := j + 1) (fr := fp_cl o) (to := fp_cl p) (left := -1) (c := c)
    have m2 := fp_mul7 (k := j + 1) (n := n) (by omega) h7
    have e1 : nI (j + 1) * (nI n - 1) = nI ((j + 1) * (n - 1)) := by
      rw [fp_n1, pk_sub (by omega), pk_mul]
    refine pk_le 16 j (fun z => absurd z (by omega)) (fun _ => ?_)
    rw [nI_1 j]
    refine fy_bd h2 h7 (by omega) (by omega) hl ?_
    refine pk_eq (fp_MH n (j + 1) (fp_cl o) (fp_cl p) (-1) c) ((j + 1) * (n - 1)) (fun z => nm_e (ih (j + 1) (by omega) ?_)) (fun z => ?_) rfl e1 (by omega) (by omega)
    · have e : fp_ty (fun k => fp_MH n k (fp_cl o) (fp_cl p) (-1) c) n (d + 1) j = fp_ty (fun k => fp_MH n k (fp_cl o) (fp_cl p) (-1) c) n d (j + 1) := if_pos z
      rw [e] at h
      exact h
    · have e : fp_ty (fun k => fp_MH n k (fp_cl o) (fp_cl p) (-1) c) n (d + 1) j = j := if_neg z
      rw [e] at h
      exact h
theorem i_vc_trees {k : Nat} {u : SX} {v : SY} (I : i_Rel k u v) (hk : k + 4 ≤ 2049) : wpX_trees (fun r u' => wpY_trees (fun r' v' => r' = r ∧ i_Rel (k + 4) u' v') v) u := by
  obtain ⟨n, c, o, p, a, b, l, rfl, rfl, h2, h7, hc, ok⟩ := I
  refine ⟨c + 1, fx_tr5 h2 h7 hc ok c a hc (fun a' => ?_)⟩
  unfold wpY_trees
  dsimp only
  refine fy_fc h2 h7 (by omega) ok (fun b' l' hl => ?_)
  refine ⟨16 + 1, fy_tr11 h2 h7 hc hl 16 0 rfl ⟨?_, fp_rel a' b' l' h2 h7 hc ok⟩⟩
  refine congrArg nI (fp_txy (fun k j h hj => fp_tr_mono h2 h7 h hj) (fun k h => fp_tr_c h2 h) hc 16 0 rfl ?_)
  have m := fp_MH_1 (n := n) (k := 0) h2 h7 (fr := fp_cl o) (to := fp_cl p) (left := -1) (c := c)
  show fp_MH n 0 (fp_cl o) (fp_cl p) (-1) c = 0 * (n - 1)
  omega
