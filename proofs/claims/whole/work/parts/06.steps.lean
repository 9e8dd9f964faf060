/-! the small own methods, X and Y side by side -/
theorem fx_iv0 {post : Int32 → Prop} {N E v : Int32} {o p a : Nat → Int32} (h : v < 0 ∨ N ≤ v) (hp : post 0) : wpX_isVertex post (N, E, o, p, a) v :=
  br_c (fun _ => hp) (fun h0 => br_t (h.resolve_left h0) hp)
theorem fx_iv1 {post : Int32 → Prop} {n j : Nat} {E : Int32} {o p a : Nat → Int32} (hn : n ≤ 7) (h : j < n) (hp : post 1) : wpX_isVertex post (nI n, E, o, p, a) (nI j) :=
  br_f (nI_pos (by omega)) (br_f (nI_ge h (by omega)) hp)
def fp_Pair (n : Nat) (v1 v2 : Int32) : Prop := ∃ x y : Nat, v1 = nI x ∧ v2 = nI y ∧ x < n ∧ y < n ∧ x ≠ y
def fp_XP (n : Nat) (v1 v2 r : Int32) : Prop := ∀ (post : Int32 → Prop) (E : Int32) (o p a : Nat → Int32), post r → wpX_canBeJoined post (nI n, E, o, p, a) v1 v2
def fp_YP (n : Nat) (v1 v2 r : Int32) : Prop := ∀ (post : Int32 → Prop) (E : Int32) (o p b l : Nat → Int32), post r → wpY_isPair post (nI n, E, o, p, b, l) v1 v2
theorem fp_neg {n : Nat} {v : Int32} (hn : n ≤ 7) (h : v < 0 ∨ nI n ≤ v) {x : Nat} (e : v = nI x) : ¬ x < n := by
  intro hx
  cases h with
  | inl h => rw [e] at h; exact nI_pos (by omega) h
  | inr h => rw [e] at h; exact nI_ge hx (by omega) h
theorem fp_pair (n : Nat) (hn : n ≤ 7) (v1 v2 : Int32) : (fp_XP n v1 v2 0 ∧ fp_YP n v1 v2 0 ∧ ¬ fp_Pair n v1 v2) ∨ (fp_XP n v1 v2 1 ∧ fp_YP n v1 v2 1 ∧ fp_Pair n v1 v2) := by
  have split : ∀ v : Int32, (v < 0 ∨ nI n ≤ v) ∨ ∃ j : Nat, j < n ∧ v = nI j := by
    intro v
    rcases pk_ix v (n := n) (by omega) with h | h | h
    · exact Or.inl (Or.inl h)
    · exact Or.inl (Or.inr h)
    · exact Or.inr h
  rcases split v1 with h1 | ⟨x, hx, rfl⟩
  · refine Or.inl ⟨fun post E o p a hp => ?_, fun post E o p b l hp => ?_, fun ⟨x, y, e1, e2, hx, hy, hxy⟩ => fp_neg hn h1 e1 hx⟩
    · unfold wpX_canBeJoined
      dsimp only
      refine fx_iv0 h1 ?_
      exact br_t rfl hp
    · exact br_c (fun _ => hp) (fun h0 => br_t (h1.resolve_left h0) hp)
  · have px : ¬ nI x < 0 := nI_pos (by omega)
    have qx : ¬ nI n ≤ nI x := nI_ge hx (by omega)
    rcases split v2 with h2 | ⟨y, hy, rfl⟩
    · refine Or.inl ⟨fun post E o p a hp => ?_, fun post E o p b l hp => ?_, fun ⟨x, y, e1, e2, hx, hy, hxy⟩ => fp_neg hn h2 e2 hy⟩
      · unfold wpX_canBeJoined
        dsimp only
        refine fx_iv1 hn hx ?_
        refine br_f (by decide) ?_
        refine fx_iv0 h2 ?_
        exact br_t rfl hp
      · exact br_f px (br_f qx (br_c (fun _ => hp) (fun h0 => br_t (h2.resolve_left h0) hp)))
    · have py : ¬ nI y < 0 := nI_pos (by omega)
      have qy : ¬ nI n ≤ nI y := nI_ge hy (by omega)
      by_cases e : x = y
      · subst e
        refine Or.inl ⟨fun post E o p a hp => ?_, fun post E o p b l hp => ?_, fun ⟨x', y', e1, e2, hx', hy', hxy⟩ => hxy ?_⟩
        · unfold wpX_canBeJoined
          dsimp only
          refine fx_iv1 hn hx ?_
          refine br_f (by decide) ?_
          refine fx_iv1 hn hy ?_
          exact br_f (by decide) (br_t rfl hp)
        · exact br_f px (br_f qx (br_f py (br_f qy (br_t rfl hp))))
        · have f1 := (nI_eq (by omega) (by omega)).mp e1
          have f2 := (nI_eq (by omega) (by omega)).mp e2
          omega
      · have ne : ¬ nI x = nI y := fun z => e ((nI_eq (by omega) (by omega)).mp z)
        refine Or.inr ⟨fun post E o p a hp => ?_, fun post E o p b l hp => ?_, x, y, rfl, rfl, hx, hy, e⟩
        · unfold wpX_canBeJoined
          dsimp only
          refine fx_iv1 hn hx ?_
          refine br_f (by decide) ?_
          refine fx_iv1 hn hy ?_
          exact br_f (by decide) (br_f ne hp)
        · exact br_f px (br_f qx (br_f py (br_f qy (br_f ne hp))))
def fp_XN (v r : Int32) : Prop := ∀ (post : Int32 → Prop) (F E : Int32) (o p a : Nat → Int32), post r → wpX_isForestCount post (F, E, o, p, a) v
def fp_YN (v r : Int32) : Prop := ∀ (post : Int32 → Prop) (F E : Int32) (o p b l : Nat → Int32), post r → wpY_isNumber post (F, E, o, p, b, l) v
theorem fp_num (v : Int32) : (fp_XN v 0 ∧ fp_YN v 0) ∨ (fp_XN v 1 ∧ fp_YN v 1 ∧ ∃ k : Nat, k ≤ 16 ∧ v = nI k) := by
  by_cases h : v < 0
  · exact Or.inl ⟨fun post F E o p a hp => br_t h hp, fun post F E o p b l hp => br_t h hp⟩
  · obtain ⟨j, hj, rfl⟩ := nI_of h
    by_cases h2 : 16 < j
    · have h3 : (16 : Int32) < nI j := nI_lt (a := 16) h2 hj
      exact Or.inl ⟨fun post F E o p a hp => br_f h (br_t h3 hp), fun post F E o p b l hp => br_f h (br_t h3 hp)⟩
    · have h3 : ¬ (16 : Int32) < nI j := nI_nlt (b := j) (a := 16) (by omega) (by decide)
      exact Or.inr ⟨fun post F E o p a hp => br_f h (br_f h3 hp), fun post F E o p b l hp => br_f h (br_f h3 hp), j, by omega, rfl⟩
def fp_XE (c : Nat) (v r : Int32) : Prop := ∀ (post : Int32 → Prop) (F : Int32) (o p a : Nat → Int32), post r → wpX_isEdge post (F, nI c, o, p, a) v
theorem fp_edg (c : Nat) (hc : c ≤ 16) (v : Int32) : (fp_XE c v 0 ∧ (v < 0 ∨ nI c ≤ v)) ∨ (fp_XE c v 1 ∧ ∃ e : Nat, e < c ∧ v = nI e) := by
  rcases pk_ix v (n := c) (by omega) with h | h | ⟨j, hj, rfl⟩
  · exact Or.inl ⟨fun post F o p a hp => br_t h hp, Or.inl h⟩
  · exact Or.inl ⟨fun post F o p a hp => br_c (fun _ => hp) (fun _ => br_t h hp), Or.inr h⟩
  · exact Or.inr ⟨fun post F o p a hp => br_f (nI_pos (by omega)) (br_f (nI_ge hj (by omega)) hp), j, hj, rfl⟩
theorem fx_se {post : SX → Prop} {F E : Int32} {o p a : Nat → Int32} {e : Nat} {v1 v2 : Int32} (he : e ≤ 16) (h : post (F, E, upd o e v1, upd p e v2, a)) : wpX_setEnds post (F, E, o, p, a) (nI e) v1 v2 :=
  ⟨pk_in e 17 (by omega), nm_r (congrArg (fun z => upd o z v1) (nI_clamp (by omega))) ⟨pk_in e 17 (by omega), nm_r (congrArg (fun z => upd p z v2) (nI_clamp (by omega))) h⟩⟩
theorem fp_cl_us {o : Nat → Int32} {e x : Nat} (h : x < 2 ^ 31) : fp_cl (upd o e (nI x)) e = x := by
  show (upd o e (nI x) e).toNatClampNeg = x
  rw [pk_us, nI_clamp h]
theorem fp_cl_un {o : Nat → Int32} {e i : Nat} {z : Int32} (h : i ≠ e) : fp_cl (upd o e z) i = fp_cl o i := by
  show (upd o e z i).toNatClampNeg = (o i).toNatClampNeg
  rw [pk_un h]
theorem fp_Ok_up {n c c' e x y : Nat} {o p : Nat → Int32} (hn : n ≤ 7) (ok : fp_Ok n c o p) (hx : x < n) (hy : y < n) (hxy : x ≠ y) (hc : ∀ i, i < c' → i ≠ e → i < c) : fp_Ok n c' (upd o e (nI x)) (upd p e (nI y)) := by
  intro i hi
  by_cases z : i = e
  · subst z
    rw [fp_cl_us (by omega), fp_cl_us (by omega)]
    exact ⟨⟨pk_us, pk_us⟩, hx, hy, hxy⟩
  · rw [fp_cl_un z, fp_cl_un z, pk_un z, pk_un z]
    exact ok i (hc i hi z)
theorem fp_Ok_le {n c c' : Nat} {o p : Nat → Int32} (ok : fp_Ok n c o p) (h : c' ≤ c) : fp_Ok n c' o p := fun e he => ok e (by omega)
/-! the relation -/
def i_Rel (_ : Nat) (u : SX) (v : SY) : Prop := ∃ (n c : Nat) (o p a b l : Nat → Int32), u = (nI n, nI c, o, p, a) ∧ v = (nI n, nI c, o, p, b, l) ∧ 2 ≤ n ∧ n ≤ 7 ∧ c ≤ 16 ∧ fp_Ok n c o p
theorem fp_rel {k n c : Nat} {o p : Nat → Int32} (a b l : Nat → Int32) (h2 : 2 ≤ n) (h7 : n ≤ 7) (hc : c ≤ 16) (ok : fp_Ok n c o p) : i_Rel k (nI n, nI c, o, p, a) (nI n, nI c, o, p, b, l) := ⟨n, c, o, p, a, b, l, rfl, rfl, h2, h7, hc, ok⟩
theorem i_up {k : Nat} {u : SX} {v : SY} (h : i_Rel k u v) : i_Rel (k + 4) u v := h
theorem fp_rel0 {k n : Nat} (h2 : 2 ≤ n) (h7 : n ≤ 7) : i_Rel k (nI n, 0, (fun _ => 0), (fun _ => 0), (fun _ => 0)) (nI n, 0, (fun _ => 0), (fun _ => 0), (fun _ => 0), (fun _ => 0)) :=
  fp_rel (c := 0) _ _ _ h2 h7 (by omega) (fun e he => absurd he (by omega))
theorem i_vc0 (k0 : Int32) : wpX_init (fun u => wpY_init (fun v => i_Rel 1 u v) k0) k0 := by
  by_cases h2 : 2 ≤ k0
  · refine br_t h2 ?_
    by_cases h7 : k0 ≤ 7
    · refine br_t h7 (br_t h2 (br_t h7 ?_))
      have h0 : ¬ k0 < 0 := Int32.not_lt.mpr (Int32.le_trans (by decide) h2)
      obtain ⟨j, hj, rfl⟩ := nI_of h0
      have a : 2 ≤ j := (nI_leI (a := 2) (by decide) hj).mp h2
      have b : j ≤ 7 := (nI_leI (b := 7) hj (by decide)).mp h7
      exact fp_rel0 a b
    · exact br_f h7 (br_t h2 (br_f h7 (fp_rel0 (n := 7) (by decide) (by decide))))
  · exact br_f h2 (br_f h2 (fp_rel0 (n := 2) (by decide) (by decide)))
theorem i_vc_vertices {k : Nat} {u : SX} {v : SY} (I : i_Rel k u v) (hk : k + 4 ≤ 2049) : wpX_vertices (fun r => wpY_vertices (fun r' => r' = r ∧ i_Rel (k + 4) u v) v) u := by
  obtain ⟨n, c, o, p, a, b, l, rfl, rfl, h2, h7, hc, ok⟩ := I
  exact ⟨rfl, fp_rel a b l h2 h7 hc ok⟩
theorem i_vc_edges {k : Nat} {u : SX} {v : SY} (I : i_Rel k u v) (hk : k + 4 ≤ 2049) : wpX_edges (fun r => wpY_edges (fun r' => r' = r ∧ i_Rel (k + 4) u v) v) u := by
  obtain ⟨n, c, o, p, a, b, l, rfl, rfl, h2, h7, hc, ok⟩ := I
  exact ⟨rfl, fp_rel a b l h2 h7 hc ok⟩
theorem i_vc_edge {k : Nat} {u : SX} {v : SY} (I : i_Rel k u v) (hk : k + 4 ≤ 2049) (v1 : Int32) (v2 : Int32) : wpX_edge (fun r u' => wpY_edge (fun r' v' => r' = r ∧ i_Rel (k + 4) u' v') v v1 v2) u v1 v2 := by
  obtain ⟨n, c, o, p, a, b, l, rfl, rfl, h2, h7, hc, ok⟩ := I
  rcases fp_pair n h7 v1 v2 with ⟨hX, hY, _⟩ | ⟨hX, hY, x, y, rfl, rfl, hx, hy, hxy⟩
  · unfold wpX_edge
    dsimp only
    refine hX _ _ _ _ _ ?_
    refine br_t rfl ?_
    unfold wpY_edge
    dsimp only
    refine hY _ _ _ _ _ _ ?_
    exact br_t rfl ⟨rfl, fp_rel a b l h2 h7 hc ok⟩
  · unfold wpX_edge
    dsimp only
    refine hX _ _ _ _ _ ?_
    refine br_f (by decide) ?_
    refine pk_lt c 16 (fun z => ?_) (fun z => ?_)
    · refine fx_se (by omega) ?_
      refine nm_r (nI_1 c) ?_
      unfold wpY_edge
      dsimp only
      refine hY _ _ _ _ _ _ ?_
      refine br_f (by decide) ?_
      refine pk_eq c 16 (fun z' => absurd z' (by omega)) (fun _ => ⟨pk_in c 17 (by omega), nm_r (congrArg (fun z => upd o z (nI x)) (nI_clamp (by omega))) ⟨pk_in c 17 (by omega), nm_r (congrArg (fun z => upd p z (nI y)) (nI_clamp (by omega))) (nm_r (nI_1 c) ⟨rfl, ?_⟩)⟩⟩)
      exact fp_rel a b l h2 h7 (by omega) (fp_Ok_up h7 ok hx hy hxy (fun i h1 h2 => by omega))
    · unfold wpY_edge
      dsimp only
      refine hY _ _ _ _ _ _ ?_
      refine br_f (by decide) ?_
      exact pk_eq c 16 (fun _ => ⟨rfl, fp_rel a b l h2 h7 hc ok⟩) (fun z' => absurd z' (by omega))
theorem i_vc_unedge {k : Nat} {u : SX} {v : SY} (I : i_Rel k u v) (hk : k + 4 ≤ 2049) : wpX_unedge (fun r u' => wpY_unedge (fun r' v' => r' = r ∧ i_Rel (k + 4) u' v') v) u := by
  obtain ⟨n, c, o, p, a, b, l, rfl, rfl, h2, h7, hc, ok⟩ := I
  cases c with
  | zero => exact pk_lt 0 0 (fun z => absurd z (by omega)) (fun _ => pk_eq 0 0 (fun _ => ⟨rfl, fp_rel a b l h2 h7 hc ok⟩) (fun z => absurd rfl z))
  | succ c =>
    refine pk_lt 0 (c + 1) (fun _ => nm_r (nI_pred c) ?_) (fun z => absurd z (by omega))
    exact pk_eq (c + 1) 0 (fun z => absurd z (by omega)) (fun _ => nm_r (nI_pred c) ⟨rfl, fp_rel a b l h2 h7 (by omega) (fp_Ok_le ok (by omega))⟩)
theorem i_vc_rejoin {k : Nat} {u : SX} {v : SY} (I : i_Rel k u v) (hk : k + 4 ≤ 2049) (v1 : Int32) (v2 : Int32) (v3 : Int32) : wpX_rejoin (fun r u' => wpY_rejoin (fun r' v' => r' = r ∧ i_Rel (k + 4) u' v') v v1 v2 v3) u v1 v2 v3 := by
  obtain ⟨n, c, o, p, a, b, l, rfl, rfl, h2, h7, hc, ok⟩ := I
  unfold wpX_rejoin
  dsimp only
  rcases fp_edg c hc v1 with ⟨hE, he⟩ | ⟨hE, e, he, rfl⟩
  · refine hE _ _ _ _ _ ?_
    refine br_t rfl ?_
    unfold wpY_rejoin
    dsimp only
    exact br_c (fun _ => ⟨rfl, fp_rel a b l h2 h7 hc ok⟩) (fun h0 => br_t (he.resolve_left h0) ⟨rfl, fp_rel a b l h2 h7 hc ok⟩)
  · have p0 : ¬ nI e < 0 := nI_pos (by omega)
    have p1 : ¬ nI c ≤ nI e := nI_ge he (by omega)
    rcases fp_pair n h7 v2 v3 with ⟨hX, hY, _⟩ | ⟨hX, hY, x, y, rfl, rfl, hx, hy, hxy⟩
    · refine hE _ _ _ _ _ ?_
      refine br_f (by decide) ?_
      refine hX _ _ _ _ _ ?_
      refine br_t rfl ?_
      unfold wpY_rejoin
      dsimp only
      refine br_f p0 (br_f p1 ?_)
      refine hY _ _ _ _ _ _ ?_
      exact br_t rfl ⟨rfl, fp_rel a b l h2 h7 hc ok⟩
    · refine hE _ _ _ _ _ ?_
      refine br_f (by decide) ?_
      refine hX _ _ _ _ _ ?_
      refine br_f (by decide) ?_
      refine fx_se (by omega) ?_
      unfold wpY_rejoin
      dsimp only
      refine br_f p0 (br_f p1 ?_)
      refine hY _ _ _ _ _ _ ?_
      refine br_f (by decide) ⟨pk_in e 17 (by omega), nm_r (congrArg (fun z => upd o z (nI x)) (nI_clamp (by omega))) ⟨pk_in e 17 (by omega), nm_r (congrArg (fun z => upd p z (nI y)) (nI_clamp (by omega))) ⟨rfl, ?_⟩⟩⟩
      exact fp_rel a b l h2 h7 hc (fp_Ok_up h7 ok hx hy hxy (fun i h1 h2 => h1))
