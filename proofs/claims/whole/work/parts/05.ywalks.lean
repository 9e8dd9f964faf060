/-! Y: mostBefore -/
theorem fy_mb4 {post : Int32 → Prop} {F E : Int32} {o p a l : Nat → Int32} {g : Nat → Nat} {m : Nat} (hm : m ≤ 7) (ha : ∀ v, v < m → a v = nI (g v)) (hg : ∀ v, v < m → g v < 7) (h : post (fp_mo (fp_mx g m))) : ∀ d v, v + d = m → wY_mostBefore_4 post (nI m) F E o p a l (d + 1) (fp_mo (fp_mx g v)) (nI v) := by
  intro d
  induction d with
  | zero =>
    intro v hv
    have e : v = m := by omega
    subst e
    exact pk_le v v (fun _ => h) (fun z => absurd z (by omega))
  | succ d ih =>
    intro v hv
    have h1 := hg v (by omega)
    have h2 := fp_mx_le (g := g) v (fun u hu => hg u (by omega))
    refine pk_le m v (fun z => absurd z (by omega)) (fun _ => ⟨pk_in v 7 (by omega), ?_⟩)
    rw [nI_clamp (by omega), ha v (by omega)]
    refine fp_if (fp_mo_le (by omega) (by omega)) (fun z => nm_r (nI_1 v) ?_) (fun z => ⟨pk_in v 7 (by omega), nm_r (fp_mo_s (g v)).symm (nm_r (nI_1 v) ?_)⟩)
    · have h3 := ih (v + 1) (by omega)
      have e : fp_mx g (v + 1) = fp_mx g v := by
        show max (fp_mx g v) (g v + 1) = _
        omega
      rw [e] at h3
      exact h3
    · have h3 := ih (v + 1) (by omega)
      have e : fp_mx g (v + 1) = g v + 1 := by
        show max (fp_mx g v) (g v + 1) = _
        omega
      rw [e] at h3
      exact h3
theorem fy_mb {post : Int32 → Prop} {F E : Int32} {o p a l : Nat → Int32} {t : List Nat} {m : Nat} (hl : t.length = m) (hm : m ≤ 7) (hr : fp_Rg t) (hp : fp_Rp a t) (h : post (fp_mo (fp_ml t))) : wpY_mostBefore post (F, E, o, p, a, l) (nI m) := by
  subst hl
  rw [← fp_mx_ml] at h
  have h3 := fy_mb4 (F := F) (E := E) (o := o) (p := p) (l := l) hm hp (fp_Rp_lt7 hr hm).2 h t.length 0 (by omega)
  have e : fp_mo (fp_mx (fp_lk t) 0) = -1 := fp_mo_0
  rw [e] at h3
  exact ⟨t.length + 1, h3⟩
/-! Y: cutEdges -/
theorem fy_ce5 {post : Int32 → Prop} {F E : Int32} {o p a l : Nat → Int32} {g : Nat → Nat} {n c : Nat} {left : Int32} (hn : n ≤ 7) (hc : c ≤ 17) (ok : fp_Ok n c o p) (ha : ∀ v, v < n → a v = nI (g v)) (hg : ∀ v, v < n → g v < 7) (h : post (nI (fp_cu g (fp_cl o) (fp_cl p) left c))) : ∀ d e, e + d = c → wY_cutEdges_5 post (nI c) left F E o p a l (d + 1) (nI (fp_cu g (fp_cl o) (fp_cl p) left e)) (nI e) := by
  intro d
  induction d with
  | zero =>
    intro v hv
    have e : v = c := by omega
    subst e
    exact pk_le v v (fun _ => h) (fun z => absurd z (by omega))
  | succ d ih =>
    intro e he
    have h3 := ih (e + 1) (by omega)
    refine pk_le c e (fun z => absurd z (by omega)) (fun _ => ?_)
    by_cases z : nI e = left
    · refine br_t z (nm_r (nI_1 e) ?_)
      rw [fp_cu_s1 z] at h3
      exact h3
    · refine br_f z ?_
      rw [nI_clamp (by omega)]
      obtain ⟨⟨o1, p1⟩, o2, p2, op⟩ := ok e (by omega)
      have ho : a (o e).toNatClampNeg = nI (g (fp_cl o e)) := ha _ o2
      have hp : a (p e).toNatClampNeg = nI (g (fp_cl p e)) := ha _ p2
      have g1 := hg _ o2
      have g2 := hg _ p2
      refine ⟨pk_in e 17 (by omega), pk_in (fp_cl o e) 7 (by omega) o1, pk_in e 17 (by omega), pk_in (fp_cl p e) 7 (by omega) p1, ?_⟩
      rw [ho, hp]
      refine pk_eq (g (fp_cl o e)) (g (fp_cl p e)) (fun y => nm_r (nI_1 e) ?_) (fun y => nm_r (nI_1 _) (nm_r (nI_1 e) ?_))
      · rw [fp_cu_s2 z y] at h3
        exact h3
      · rw [fp_cu_s3 z y] at h3
        exact h3
theorem fy_ce {post : Int32 → Prop} {F E : Int32} {o p a l : Nat → Int32} {t : List Nat} {n c : Nat} {left : Int32} (hl : t.length = n) (hn : n ≤ 7) (hc : c ≤ 17) (ok : fp_Ok n c o p) (hr : fp_Rg t) (hp : fp_Rp a t) (h : post (nI (fp_cu (fp_lk t) (fp_cl o) (fp_cl p) left c))) : wpY_cutEdges post (F, E, o, p, a, l) (nI c) left := by
  subst hl
  exact ⟨c + 1, fy_ce5 hn hc ok hp (fp_Rp_lt7 hr hn).2 h c 0 (by omega)⟩
/-! Y: nextParting -/
theorem fy_np39 {post : Int32 → SY → Prop} {n : Nat} {E : Int32} {o p l : Nat → Int32} (hn : n ≤ 7) : ∀ (d v : Nat) (b : Nat → Int32), v + d = n → (∀ a', (∀ u, u < v → a' u = b u) → (∀ u, v ≤ u → u < n → a' u = 0) → post 1 (nI n, E, o, p, a', l)) → wY_nextParting_39 post (nI n) E (d + 1) (nI v) o p b l := by
  intro d
  induction d with
  | zero =>
    intro v b hv h
    have e : v = n := by omega
    subst e
    exact pk_le v v (fun _ => h b (fun _ _ => rfl) (fun u h1 h2 => absurd h1 (by omega))) (fun z => absurd z (by omega))
  | succ d ih =>
    intro v b hv h
    refine pk_le n v (fun z => absurd z (by omega)) (fun _ => ⟨pk_in v 7 (by omega), ?_⟩)
    rw [nI_clamp (by omega)]
    refine nm_e (nm_r (nI_1 v) (ih (v + 1) _ (by omega) (fun a' h1 h2 => h a' (fun u hu => ?_) (fun u hu1 hu2 => ?_))))
    · rw [h1 u (by omega), pk_un (by omega)]
    · by_cases e : u = v
      · rw [h1 u (by omega), e, pk_us]
      · exact h2 u (by omega) hu2
theorem fy_np7 {post : Int32 → SY → Prop} {n : Nat} {E : Int32} {o p l a : Nat → Int32} (hn : n ≤ 7) : ∀ (t : List Nat) (x d : Nat), t.length + 1 + d = n → fp_Rg (x :: t) → fp_Rp a (x :: t) → (∀ w' a', fp_inc (x :: t) = some w' → fp_Rp a' (fp_zp d w') → post 1 (nI n, E, o, p, a', l)) → (fp_inc (x :: t) = none → ∀ a', post 0 (nI n, E, o, p, a', l)) → wY_nextParting_7 post (nI n) E o p a l (t.length + 1) (nI t.length) := by
  intro t
  induction t with
  | nil =>
    intro x d hd hr hp h1 h0
    exact pk_le 0 0 (fun _ => h0 (fp_inc_1 x) a) (fun z => absurd z (by omega))
  | cons y t ih =>
    intro x d hd hr hp h1 h0
    have hL : (y :: t).length = t.length + 1 := rfl
    rw [hL] at hd ⊢
    obtain ⟨hx, hr2⟩ := hr
    have hp2 := fp_Rp_tl hp
    have hp3 : a (t.length + 1) = nI x := fp_Rp_hd hp
    have b1 := fp_Rp_lt7 hr2 (by omega)
    refine pk_le (t.length + 1) 0 (fun z => absurd z (by omega)) (fun _ => ⟨pk_in (t.length + 1) 7 (by omega), ?_⟩)
    refine fy_mb (t := y :: t) hL (by omega) hr2 hp2 ?_
    rw [nI_clamp (by omega), hp3]
    have b2 := b1.1
    refine fp_if (fp_mo_lt (by omega) (by omega)) (fun z => nm_r (pk_m1 t.length) ?_) (fun z => ⟨pk_in (t.length + 1) 7 (by omega), pk_in (t.length + 1) 7 (by omega), nm_r (congrArg (upd a (t.length + 1)) (nI_1 x)) (nm_r (nI_1 (t.length + 1)) ⟨d + 1, ?_⟩)⟩)
    · exact ih y (d + 1) (by omega) hr2 hp2 (fun w' a' hw ha => h1 (0 :: w') a' (fp_inc_fs (by omega) hw) ha) (fun hw a' => h0 (fp_inc_fn (by omega) hw) a')
    · refine fy_np39 hn d (t.length + 1 + 1) _ (by omega) (fun a' e1 e2 => ?_)
      refine h1 _ a' (fp_inc_t (by omega)) (fp_Rp_zp (fun v hv => ?_) (fun v hv1 hv2 => ?_))
      · have hv' : v < t.length + 1 + 1 := hv
        rw [e1 v hv']
        exact fp_Rp_up hp v hv
      · have hv1' : t.length + 1 + 1 ≤ v := hv1
        have hv2' : v < t.length + 1 + 1 + d := hv2
        exact e2 v hv1' (by omega)
theorem fy_np {post : Int32 → SY → Prop} {n : Nat} {E : Int32} {o p a l : Nat → Int32} {s : List Nat} (h1n : 1 ≤ n) (hn : n ≤ 7) (hl : s.length = n) (hr : fp_Rg s) (hp : fp_Rp a s) (h1 : ∀ s' a', fp_inc s = some s' → fp_Rp a' s' → post 1 (nI n, E, o, p, a', l)) (h0 : fp_inc s = none → ∀ a', post 0 (nI n, E, o, p, a', l)) : wpY_nextParting post (nI n, E, o, p, a, l) := by
  cases s with
  | nil => exact absurd hl (by show ¬ 0 = n; omega)
  | cons x t =>
    have hl' : t.length + 1 = n := hl
    subst hl'
    exact nm_r (nI_pred t.length) ⟨t.length + 1, fy_np7 hn t x 0 rfl hr hp h1 h0⟩
/-! Y: findCuts -/
theorem fp_ls_c {w : List Nat → Nat} {m r r' : Nat} {l : List (List Nat)} {t : List Nat} (e : r' = (if fp_ml t = m then (if w t < r then w t else r) else r)) : fp_ls w m l r' = fp_ls w m (t :: l) r := by
  rw [e]
  rfl
theorem fy_fc49 {post : SY → Prop} {n c : Nat} {E : Int32} {o p : Nat → Int32} {left : Int32} (h2 : 2 ≤ n) (h7 : n ≤ 7) (hc : c ≤ 17) (ok : fp_Ok n c o p) : ∀ (f i : Nat) (s : List Nat) (ls : Nat → Nat) (a l : Nat → Int32), i + f = 877 → s.length = n → fp_Rg s → fp_Rp a s → (∀ m, m < 8 → l m = nI (ls m) ∧ ls m ≤ 1000) → (∀ a' l', (∀ m, m < 8 → l' m = nI (fp_ls (fp_cw (fp_cl o) (fp_cl p) left c) m (fp_seq f s) (ls m))) → post (nI n, E, o, p, a', l')) → wY_findCuts_49 post (nI c) left (f + 1) 1 (nI i) (nI n) E o p a l := by
  intro f
  induction f with
  | zero =>
    intro i s ls a l hi hl hr hp hls h
    exact pk_le 877 i (fun _ => h a l (fun m hm => (hls m hm).1)) (fun z => absurd z (by omega))
  | succ f ih =>
    intro i s ls a l hi hl hr hp hls h
    have b1 := fp_ml_le s hr
    have b2 := fp_cu_le (fp_lk s) (fp_cl o) (fp_cl p) left c
    have b5 := (hls (fp_ml s) (by omega)).2
    have key : ∀ r', r' ≤ 1000 → r' = (if fp_cw (fp_cl o) (fp_cl p) left c s < ls (fp_ml s) then fp_cw (fp_cl o) (fp_cl p) left c s else ls (fp_ml s)) → wY_findCuts_111 post (wY_findCuts_49 post (nI c) left (f + 1)) (nI c) left (nI i) (nI r') (nI (fp_ml s)) (nI n) E o p a l := by
      intro r' hr' e
      have hls' : ∀ m, m < 8 → upd l (fp_ml s) (nI r') m = nI ((fun m => if m = fp_ml s then r' else ls m) m) ∧ (fun m => if m = fp_ml s then r' else ls m) m ≤ 1000 := by
        intro m hm
        dsimp only
        by_cases y : m = fp_ml s
        · rw [if_pos y, y, pk_us]
          exact ⟨rfl, hr'⟩
        · rw [if_neg y, pk_un y]
          exact hls m hm
      have hee : ∀ m, (fun m => if m = fp_ml s then r' else ls m) m = (if fp_ml s = m then (if fp_cw (fp_cl o) (fp_cl p) left c s < ls m then fp_cw (fp_cl o) (fp_cl p) left c s else ls m) else ls m) := by
        intro m
        dsimp only
        by_cases y : m = fp_ml s
        · rw [if_pos y, if_pos y.symm, y]
          exact e
        · rw [if_neg y, if_neg (fun z => y z.symm)]
      refine ⟨pk_in (fp_ml s) 8 (by omega), nm_r (by rw [nI_clamp (show fp_ml s < 2 ^ 31 by omega)]) ?_⟩
      refine fy_np (s := s) (by omega) h7 hl hr hp (fun s' a' hs ha => ?_) (fun hs a' => ?_)
      · have ⟨c1, c2⟩ := fp_inc_Rg s s' hr hs
        refine nm_r (nI_1 i) (ih (i + 1) s' (fun m => if m = fp_ml s then r' else ls m) a' _ (by omega) (by omega) c1 ha hls' (fun a2 l2 h3 => h a2 l2 (fun m hm => ?_)))
        rw [h3 m hm, fp_ls_c (hee m)]
        show _ = nI (fp_ls _ m (s :: (match fp_inc s with
          | none => []
          | some s' => fp_seq f s')) (ls m))
        rw [hs]
      · have h4 : post (nI n, E, o, p, a', upd l (fp_ml s) (nI r')) := by
          refine h a' _ (fun m hm => ?_)
          rw [(hls' m hm).1, hee m]
          show _ = nI (fp_ls _ m (s :: (match fp_inc s with
            | none => []
            | some s' => fp_seq f s')) (ls m))
          rw [hs]
          rfl
        exact nm_r (nI_1 i) (br_c (fun _ => h4) (fun _ => br_t rfl h4))
    refine pk_le 877 i (fun z => absurd z (by omega)) (fun _ => br_f (by decide) (fy_mb hl h7 hr hp (nm_r (fp_mo_1 (fp_ml s)) (fy_ce hl h7 hc ok hr hp ⟨pk_in (fp_ml s) 8 (by omega), ?_⟩))))
    rw [nI_clamp (by omega), (hls (fp_ml s) (by omega)).1]
    have b6 : fp_cu (fp_lk s) (fp_cl o) (fp_cl p) left c = fp_cw (fp_cl o) (fp_cl p) left c s := rfl
    rw [b6] at b2 ⊢
    exact pk_le (ls (fp_ml s)) (fp_cw (fp_cl o) (fp_cl p) left c s) (fun z => ⟨pk_in (fp_ml s) 8 (by omega), key _ b5 (if_neg (by omega)).symm⟩) (fun z => key _ (by omega) (if_pos z).symm)
theorem fy_fc25 {post : SY → Prop} {n : Nat} {E C left : Int32} {o p l : Nat → Int32} (h : ∀ a', (∀ v, v < 7 → a' v = 0) → ∃ n49 : Nat, wY_findCuts_49 post C left n49 1 0 (nI n) E o p a' l) : ∀ d v a, v + d = 7 → (∀ u, u < v → a u = 0) → wY_findCuts_25 post C left (nI n) E (d + 1) (nI v) o p a l := by
  intro d
  induction d with
  | zero =>
    intro v a hv ha
    exact pk_le 7 v (fun _ => h a (fun u hu => ha u (by omega))) (fun z => absurd z (by omega))
  | succ d ih =>
    intro v a hv ha
    refine pk_le 7 v (fun z => absurd z (by omega)) (fun _ => ⟨pk_in v 7 (by omega), ?_⟩)
    rw [nI_clamp (by omega)]
    refine nm_e (nm_r (nI_1 v) (ih (v + 1) _ (by omega) (fun u hu => ?_)))
    by_cases e : u = v
    · rw [e, pk_us]
    · rw [pk_un e, ha u (by omega)]
theorem fy_fc2 {post : SY → Prop} {n : Nat} {E C left : Int32} {o p a : Nat → Int32} (h : ∀ l', (∀ m, m < 8 → l' m = nI 1000) → ∃ n25 : Nat, wY_findCuts_25 post C left (nI n) E n25 0 o p a l') : ∀ d v l, v + d = 8 → (∀ u, u < v → l u = nI 1000) → wY_findCuts_2 post C left (nI n) E (d + 1) (nI v) o p a l := by
  intro d
  induction d with
  | zero =>
    intro v l hv hl
    exact pk_le 8 v (fun _ => h l (fun u hu => hl u (by omega))) (fun z => absurd z (by omega))
  | succ d ih =>
    intro v l hv hl
    refine pk_le 8 v (fun z => absurd z (by omega)) (fun _ => ⟨pk_in v 8 (by omega), ?_⟩)
    rw [nI_clamp (by omega)]
    refine nm_e (nm_r (nI_1 v) (ih (v + 1) _ (by omega) (fun u hu => ?_)))
    by_cases e : u = v
    · rw [e, pk_us]
      rfl
    · rw [pk_un e, hl u (by omega)]
theorem fy_fc {post : SY → Prop} {n c : Nat} {E : Int32} {o p a l : Nat → Int32} {left : Int32} (h2 : 2 ≤ n) (h7 : n ≤ 7) (hc : c ≤ 17) (ok : fp_Ok n c o p) (h : ∀ a' l', (∀ m, m < 8 → l' m = nI (fp_LS n (fp_cl o) (fp_cl p) left c m)) → post (nI n, E, o, p, a', l')) : wpY_findCuts post (nI n, E, o, p, a, l) (nI c) left := by
  refine ⟨8 + 1, fy_fc2 (fun l' hl' => ⟨7 + 1, fy_fc25 (fun a' ha' => ⟨877 + 1, ?_⟩) 7 0 a rfl (fun u hu => absurd hu (by omega))⟩) 8 0 l rfl (fun u hu => absurd hu (by omega))⟩
  refine fy_fc49 h2 h7 hc ok 877 0 (fp_zs n) (fun _ => 1000) a' l' rfl (fp_zs_len n) (fp_zs_Rg n) (fun v hv => ?_) (fun m hm => ⟨hl' m hm, Nat.le_refl _⟩) h
  rw [fp_zs_len] at hv
  rw [ha' v (by omega), fp_zs_lk]
  rfl
/-! Y: bound -/
theorem fy_bd6 {post : Int32 → Prop} {n k : Nat} {E : Int32} {o p a l : Nat → Int32} {ls : Nat → Nat} (h7 : n ≤ 7) (hk : k ≤ 16) (hl : ∀ m, m < 8 → l m = nI (ls m) ∧ ls m ≤ 1000) (h : post (nI (fp_bd n k ls n))) : ∀ d j, j + d = n → wY_bound_6 post (nI k) (nI n) E o p a l (d + 1) (nI (fp_bd n k ls j)) (nI (j + 1)) := by
  intro d
  induction d with
  | zero =>
    intro j hj
    have e : j = n := by omega
    subst e
    exact pk_lt j (j + 1) (fun _ => h) (fun z => absurd z (by omega))
  | succ d ih =>
    intro j hj
    have h3 := ih (j + 1) (by omega)
    obtain ⟨l1, l2⟩ := hl (j + 1) (by omega)
    have b3 : k * (n - (j + 1)) ≤ 16 * 7 := Nat.mul_le_mul hk (by omega)
    have b4 := ((fp_bd_le n k ls j (fp_bd n k ls j)).mp (Nat.le_refl _)).1
    refine pk_lt n (j + 1) (fun z => absurd z (by omega)) (fun _ => ⟨pk_in (j + 1) 8 (by omega), ?_⟩)
    rw [nI_clamp (by omega), l1, pk_sub (by omega), pk_mul, nI_add]
    refine nm_e (pk_le (fp_bd n k ls j) (ls (j + 1) + k * (n - (j + 1))) (fun z => nm_r (nI_1 (j + 1)) ?_) (fun z => nm_r (nI_1 (j + 1)) ?_))
    · have e : fp_bd n k ls (j + 1) = fp_bd n k ls j := if_neg (by omega)
      rw [e] at h3
      exact h3
    · have e : fp_bd n k ls (j + 1) = ls (j + 1) + k * (n - (j + 1)) := if_pos z
      rw [e] at h3
      exact h3
theorem fp_LS_1000 {n : Nat} {fr to : Nat → Nat} {left : Int32} {c m : Nat} : fp_LS n fr to left c m ≤ 1000 := (fp_LS_le.mp (Nat.le_refl _)).1
theorem fy_bd {post : Int32 → Prop} {n k c : Nat} {E : Int32} {o p a l : Nat → Int32} {fr to : Nat → Nat} {left : Int32} (h2 : 2 ≤ n) (h7 : n ≤ 7) (hc : c ≤ 17) (hk : k ≤ 16) (hl : ∀ m, m < 8 → l m = nI (fp_LS n fr to left c m)) (h : post (nI (fp_MH n k fr to left c))) : wpY_bound post (nI n, E, o, p, a, l) (nI k) := by
  rw [fp_MH_bd h2 h7 hc] at h
  exact ⟨n + 1, fy_bd6 h7 hk (fun m hm => ⟨hl m hm, fp_LS_1000⟩) h n 0 (by omega)⟩
