/-! parts -/
theorem fy_pt132 {post : Int32 → SY → Prop} {n : Nat} {C : Int32} {o p b l : Nat → Int32} {q : Nat → Nat} (h7 : n ≤ 7) (hb : ∀ v, v < n → b v = nI (q v)) (hq : ∀ v, q v ≤ v) (h : post (nI (fp_cn (fp_rt q) n)) (nI n, C, o, p, b, l)) : ∀ d v, v + d = n → wY_parts_132 post (nI n) C o p b l (d + 1) (nI (fp_cn (fp_rt q) v)) (nI v) := by
  intro d
  induction d with
  | zero =>
    intro v hv
    have e : v = n := by omega
    subst e
    exact pk_le v v (fun _ => h) (fun z => absurd z (by omega))
  | succ d ih =>
    intro v hv
    have h3 := ih (v + 1) (by omega)
    have h4 := hq v
    refine pk_le n v (fun z => absurd z (by omega)) (fun _ => ⟨pk_in v 7 (by omega), ?_⟩)
    rw [nI_clamp (by omega), hb v (by omega)]
    refine pk_eq (q v) v (fun z => nm_r (nI_1 _) (nm_r (nI_1 v) ?_)) (fun z => nm_r (nI_1 v) ?_)
    · rw [fp_cn_t (fp_rt_t.mpr z)] at h3
      exact h3
    · rw [fp_cn_f (fun y => z (fp_rt_t.mp y))] at h3
      exact h3
theorem fy_pt33 {post : Int32 → SY → Prop} {J25 : Int32 → (Nat → Int32) → (Nat → Int32) → (Nat → Int32) → (Nat → Int32) → Prop} {n c r : Nat} {o p l : Nat → Int32} {q : Nat → Nat} (h7 : n ≤ 7) (hc : c ≤ 16) (ok : fp_Ok n c o p) (hq : ∀ v, q v ≤ v) (h : ∀ b', (∀ v, v < n → b' v = nI (fp_pr (fp_cl o) (fp_cl p) c q v)) → J25 (nI (r + 1)) o p b' l) : ∀ d e b, e + d = c → (∀ v, v < n → b v = nI (fp_pr (fp_cl o) (fp_cl p) e q v)) → wY_parts_33 post J25 (nI r) (nI n) (nI c) (d + 1) (nI e) o p b l := by
  intro d
  induction d with
  | zero =>
    intro e b he hb
    have z : e = c := by omega
    subst z
    exact pk_le e e (fun _ => nm_r (nI_1 r) (h b hb)) (fun z => absurd z (by omega))
  | succ d ih =>
    intro e b he hb
    obtain ⟨⟨o1, p1⟩, o2, p2, op⟩ := ok e (by omega)
    have ho : b (o e).toNatClampNeg = nI (fp_pr (fp_cl o) (fp_cl p) e q (fp_cl o e)) := hb _ o2
    have hp : b (p e).toNatClampNeg = nI (fp_pr (fp_cl o) (fp_cl p) e q (fp_cl p e)) := hb _ p2
    have g1 := Nat.le_trans (fp_pr_le (fr := fp_cl o) (to := fp_cl p) (q := q) e (fp_cl o e)) (hq _)
    have g2 := Nat.le_trans (fp_pr_le (fr := fp_cl o) (to := fp_cl p) (q := q) e (fp_cl p e)) (hq _)
    have key : ∀ w, fp_mn (fp_pr (fp_cl o) (fp_cl p) e q (fp_cl o e)) (fp_pr (fp_cl o) (fp_cl p) e q (fp_cl p e)) = w → wY_parts_91 post J25 (wY_parts_33 post J25 (nI r) (nI n) (nI c) (d + 1)) (nI r) (nI e) (nI w) (nI n) (nI c) o p b l := by
      intro w hw
      refine ⟨pk_in e 17 (by omega), ?_⟩
      rw [nI_clamp (by omega)]
      refine ⟨pk_in (fp_cl o e) 7 (by omega) o1, nm_e ⟨pk_in e 17 (by omega), pk_in (fp_cl p e) 7 (by omega) p1, nm_e (nm_r (nI_1 e) (ih (e + 1) _ (by omega) (fun v hv => ?_)))⟩⟩
      show upd (upd b (fp_cl o e) (nI w)) (fp_cl p e) (nI w) v = nI (if v = fp_cl p e then fp_mn (fp_pr (fp_cl o) (fp_cl p) e q (fp_cl o e)) (fp_pr (fp_cl o) (fp_cl p) e q (fp_cl p e)) else if v = fp_cl o e then fp_mn (fp_pr (fp_cl o) (fp_cl p) e q (fp_cl o e)) (fp_pr (fp_cl o) (fp_cl p) e q (fp_cl p e)) else fp_pr (fp_cl o) (fp_cl p) e q v)
      rw [hw]
      by_cases y : v = fp_cl p e
      · rw [if_pos y, y, pk_us]
      · rw [if_neg y, pk_un y]
        by_cases y2 : v = fp_cl o e
        · rw [if_pos y2, y2, pk_us]
        · rw [if_neg y2, pk_un y2, hb v hv]
    refine pk_le c e (fun z => absurd z (by omega)) (fun _ => ?_)
    rw [nI_clamp (by omega)]
    refine ⟨pk_in e 17 (by omega), pk_in (fp_cl o e) 7 (by omega) o1, pk_in e 17 (by omega), pk_in (fp_cl p e) 7 (by omega) p1, ?_⟩
    rw [ho, hp]
    refine pk_le (fp_pr (fp_cl o) (fp_cl p) e q (fp_cl p e)) (fp_pr (fp_cl o) (fp_cl p) e q (fp_cl o e)) (fun z => ⟨pk_in e 17 (by omega), pk_in (fp_cl p e) 7 (by omega) p1, key _ (if_neg (by omega))⟩) (fun z => ⟨pk_in e 17 (by omega), pk_in (fp_cl o e) 7 (by omega) o1, key _ (if_pos z)⟩)
theorem fy_pt25 {post : Int32 → SY → Prop} {n c : Nat} {o p l : Nat → Int32} (h7 : n ≤ 7) (hc : c ≤ 16) (ok : fp_Ok n c o p) (h : ∀ b', post (nI (fp_cn (fp_rt (fp_rr (fp_cl o) (fp_cl p) c 7)) n)) (nI n, nI c, o, p, b', l)) : ∀ d r b, r + d = 7 → (∀ v, v < n → b v = nI (fp_rr (fp_cl o) (fp_cl p) c r v)) → wY_parts_25 post (nI n) (nI c) (d + 1) (nI r) o p b l := by
  intro d
  induction d with
  | zero =>
    intro r b hr hb
    have e : r = 7 := by omega
    subst e
    exact pk_le 7 7 (fun _ => ⟨n + 1, fy_pt132 h7 hb (fp_rr_le 7) (h b) n 0 (by omega)⟩) (fun z => absurd z (by omega))
  | succ d ih =>
    intro r b hr hb
    refine pk_le 7 r (fun z => absurd z (by omega)) (fun _ => ⟨c + 1, ?_⟩)
    exact fy_pt33 (q := fp_rr (fp_cl o) (fp_cl p) c r) h7 hc ok (fp_rr_le r) (fun b' hb' => ih (r + 1) b' (by omega) hb') c 0 b (by omega) hb
theorem fy_pt2 {post : Int32 → SY → Prop} {n c : Nat} {o p l : Nat → Int32} (h7 : n ≤ 7) (hc : c ≤ 16) (ok : fp_Ok n c o p) (h : ∀ b', post (nI (fp_cn (fp_rt (fp_rr (fp_cl o) (fp_cl p) c 7)) n)) (nI n, nI c, o, p, b', l)) : ∀ d v b, v + d = n → (∀ u, u < v → b u = nI u) → wY_parts_2 post (nI n) (nI c) (d + 1) (nI v) o p b l := by
  intro d
  induction d with
  | zero =>
    intro v b hv hb
    have e : v = n := by omega
    subst e
    exact pk_le v v (fun _ => ⟨7 + 1, fy_pt25 h7 hc ok h 7 0 b rfl hb⟩) (fun z => absurd z (by omega))
  | succ d ih =>
    intro v b hv hb
    refine pk_le n v (fun z => absurd z (by omega)) (fun _ => ⟨pk_in v 7 (by omega), ?_⟩)
    rw [nI_clamp (by omega)]
    refine nm_e (nm_r (nI_1 v) (ih (v + 1) _ (by omega) (fun u hu => ?_)))
    by_cases e : u = v
    · rw [e, pk_us]
    · rw [pk_un e, hb u (by omega)]
theorem i_vc_parts {k : Nat} {u : SX} {v : SY} (I : i_Rel k u v) (hk : k + 4 ≤ 2049) : wpX_parts (fun r u' => wpY_parts (fun r' v' => r' = r ∧ i_Rel (k + 4) u' v') v) u := by
  obtain ⟨n, c, o, p, a, b, l, rfl, rfl, h2, h7, hc, ok⟩ := I
  unfold wpX_parts
  dsimp only
  have he : ∀ e, e < c → fp_cl o e < n ∧ fp_cl p e < n := fun e he => ⟨(ok e he).2.1, (ok e he).2.2.1⟩
  have hl : ∀ e, e < c → nI e ≠ -1 := fun e he => fp_ne1 (by omega)
  have hm := fp_parts h2 h7 (fp_rr_7 (by omega) h7 he) he hl
  have hn := fp_cn_le (fp_rt (fp_rr (fp_cl o) (fp_cl p) c 7)) n
  refine fx_mh (k := 1) h2 h7 (by omega) (by omega) ok (fun a' => ?_)
  dsimp only
  rw [hm, pk_sub (by omega)]
  refine ⟨n + 1, fy_pt2 h7 hc ok (fun b' => ⟨congrArg nI (by omega), fp_rel a' b' l h2 h7 hc ok⟩) n 0 b (by omega) (fun u hu => absurd hu (by omega))⟩
