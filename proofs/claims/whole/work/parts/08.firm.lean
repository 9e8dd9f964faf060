/-! isFirm and firm: in lockstep -/
def fp_Two (n c : Nat) (o p o' p' : Nat → Int32) (r : Int32) (wx : (Int32 → SX → Prop) → SX → Prop) (wy : (Int32 → SY → Prop) → SY → Prop) : Prop :=
  (∀ (post : Int32 → SX → Prop) (a : Nat → Int32), (∀ a', post r (nI n, nI c, o', p', a')) → wx post (nI n, nI c, o, p, a)) ∧ (∀ (post : Int32 → SY → Prop) (b l : Nat → Int32), (∀ b' l', post r (nI n, nI c, o', p', b', l')) → wy post (nI n, nI c, o, p, b, l))
theorem fp_fir {n c : Nat} {o p : Nat → Int32} (h2 : 2 ≤ n) (h7 : n ≤ 7) (hc : c ≤ 16) (ok : fp_Ok n c o p) (v1 v2 : Int32) : ∃ r, fp_Two n c o p o p r (fun post u => wpX_isFirm post u v1 v2) (fun post u => wpY_isFirm post u v1 v2) := by
  rcases fp_edg c hc v1 with ⟨hE, he⟩ | ⟨hE, e, he, rfl⟩
  · refine ⟨0, fun post a h => ?_, fun post b l h => ?_⟩
    · show wpX_isFirm post _ v1 v2
      unfold wpX_isFirm
      dsimp only
      refine hE _ _ _ _ _ ?_
      exact br_t rfl (h a)
    · exact br_c (fun _ => h b l) (fun h0 => br_t (he.resolve_left h0) (h b l))
  · have p0 : ¬ nI e < 0 := nI_pos (by omega)
    have p1 : ¬ nI c ≤ nI e := nI_ge he (by omega)
    rcases fp_num v2 with ⟨hX, hY⟩ | ⟨hX, hY, j, hj, rfl⟩
    · refine ⟨0, fun post a h => ?_, fun post b l h => ?_⟩
      · show wpX_isFirm post _ (nI e) v2
        unfold wpX_isFirm
        dsimp only
        refine hE _ _ _ _ _ ?_
        refine br_f (by decide) ?_
        refine hX _ _ _ _ _ _ ?_
        exact br_t rfl (h a)
      · refine br_f p0 (br_f p1 ?_)
        refine hY _ _ _ _ _ _ _ ?_
        exact br_t rfl (h b l)
    · have m1 := fp_MH_17 (n := n) (k := j) (fr := fp_cl o) (to := fp_cl p) (left := -1) (c := c) (by omega)
      have m2 := fp_MH_17 (n := n) (k := j) (fr := fp_cl o) (to := fp_cl p) (left := nI e) (c := c) (by omega)
      have hr : ∃ r : Int32, ∀ P : Int32 → Prop, P r → ((nI (fp_MH n j (fp_cl o) (fp_cl p) (-1) c) ≤ nI (fp_MH n j (fp_cl o) (fp_cl p) (nI e) c) → P 0) ∧ (¬ nI (fp_MH n j (fp_cl o) (fp_cl p) (-1) c) ≤ nI (fp_MH n j (fp_cl o) (fp_cl p) (nI e) c) → P 1)) := by
        by_cases z : nI (fp_MH n j (fp_cl o) (fp_cl p) (-1) c) ≤ nI (fp_MH n j (fp_cl o) (fp_cl p) (nI e) c)
        · exact ⟨0, fun P h => br_t z h⟩
        · exact ⟨1, fun P h => br_f z h⟩
      obtain ⟨r, hr⟩ := hr
      refine ⟨r, fun post a h => ?_, fun post b l h => ?_⟩
      · show wpX_isFirm post _ (nI e) (nI j)
        unfold wpX_isFirm
        dsimp only
        refine hE _ _ _ _ _ ?_
        refine br_f (by decide) ?_
        refine hX _ _ _ _ _ _ ?_
        refine br_f (by decide) ?_
        refine fx_mh h2 h7 (by omega) hj ok (fun a' => ?_)
        dsimp only
        refine fx_mh h2 h7 (by omega) hj ok (fun a2 => ?_)
        exact hr (fun r => post r (nI n, nI c, o, p, a2)) (h a2)
      · refine br_f p0 (br_f p1 ?_)
        refine hY _ _ _ _ _ _ _ ?_
        refine br_f (by decide) ?_
        refine fy_hold h2 h7 hc hj ok hY (fun b' l' => ?_)
        dsimp only
        refine fy_fc h2 h7 (by omega) ok (fun b2 l2 hl => ?_)
        dsimp only
        refine fy_bd h2 h7 (by omega) hj hl ?_
        exact hr (fun r => post r (nI n, nI c, o, p, b2, l2)) (h b2 l2)
theorem i_vc_isFirm {k : Nat} {u : SX} {v : SY} (I : i_Rel k u v) (hk : k + 4 ≤ 2049) (v1 : Int32) (v2 : Int32) : wpX_isFirm (fun r u' => wpY_isFirm (fun r' v' => r' = r ∧ i_Rel (k + 4) u' v') v v1 v2) u v1 v2 := by
  obtain ⟨n, c, o, p, a, b, l, rfl, rfl, h2, h7, hc, ok⟩ := I
  obtain ⟨r, hX, hY⟩ := fp_fir h2 h7 hc ok v1 v2
  exact hX _ a (fun a' => hY _ b l (fun b' l' => ⟨rfl, fp_rel a' b' l' h2 h7 hc ok⟩))
theorem fp_firm14 {n c : Nat} {o p : Nat → Int32} (h2 : 2 ≤ n) (h7 : n ≤ 7) (hc : c ≤ 16) (ok : fp_Ok n c o p) (v1 : Int32) : ∀ d e, e + d = c → ∀ x2 : Int32, ∃ r : Int32, (∀ (post : Int32 → SX → Prop) (a : Nat → Int32), (∀ a', post r (nI n, nI c, o, p, a')) → wX_firm_14 post v1 (d + 1) x2 (nI e) (nI n) (nI c) o p a) ∧ (∀ (post : Int32 → SY → Prop) (b l : Nat → Int32), (∀ b' l', post r (nI n, nI c, o, p, b', l')) → wY_firm_14 post v1 (d + 1) x2 (nI e) (nI n) (nI c) o p b l) := by
  intro d
  induction d with
  | zero =>
    intro e he x2
    exact ⟨x2, fun post a h => pk_le c e (fun _ => h a) (fun z => absurd z (by omega)), fun post b l h => pk_le c e (fun _ => h b l) (fun z => absurd z (by omega))⟩
  | succ d ih =>
    intro e he x2
    obtain ⟨r1, hX, hY⟩ := fp_fir h2 h7 hc ok (nI e) v1
    by_cases z : r1 = 0
    · obtain ⟨r, iX, iY⟩ := ih (e + 1) (by omega) x2
      refine ⟨r, fun post a h => pk_le c e (fun z => absurd z (by omega)) (fun _ => ?_), fun post b l h => pk_le c e (fun z => absurd z (by omega)) (fun _ => ?_)⟩
      · refine hX _ a (fun a' => ?_)
        exact br_t z (nm_r (nI_1 e) (iX post a' h))
      · refine hY _ b l (fun b' l' => ?_)
        exact br_t z (nm_r (nI_1 e) (iY post b' l' h))
    · obtain ⟨r, iX, iY⟩ := ih (e + 1) (by omega) (x2 + 1)
      refine ⟨r, fun post a h => pk_le c e (fun z => absurd z (by omega)) (fun _ => ?_), fun post b l h => pk_le c e (fun z => absurd z (by omega)) (fun _ => ?_)⟩
      · refine hX _ a (fun a' => ?_)
        exact br_f z (nm_e (nm_r (nI_1 e) (iX post a' h)))
      · refine hY _ b l (fun b' l' => ?_)
        exact br_f z (nm_e (nm_r (nI_1 e) (iY post b' l' h)))
theorem i_vc_firm {k : Nat} {u : SX} {v : SY} (I : i_Rel k u v) (hk : k + 4 ≤ 2049) (v1 : Int32) : wpX_firm (fun r u' => wpY_firm (fun r' v' => r' = r ∧ i_Rel (k + 4) u' v') v v1) u v1 := by
  obtain ⟨n, c, o, p, a, b, l, rfl, rfl, h2, h7, hc, ok⟩ := I
  unfold wpX_firm
  dsimp only
  rcases fp_num v1 with ⟨hX, hY⟩ | ⟨hX, hY, j, hj, rfl⟩
  · refine hX _ _ _ _ _ _ ?_
    refine br_t rfl ?_
    unfold wpY_firm
    dsimp only
    refine hY _ _ _ _ _ _ _ ?_
    exact br_t rfl ⟨rfl, fp_rel a b l h2 h7 hc ok⟩
  · obtain ⟨r, iX, iY⟩ := fp_firm14 h2 h7 hc ok (nI j) c 0 (by omega) 0
    refine hX _ _ _ _ _ _ ?_
    refine br_f (by decide) ⟨c + 1, iX _ a (fun a' => ?_)⟩
    unfold wpY_firm
    dsimp only
    refine hY _ _ _ _ _ _ _ ?_
    exact br_f (by decide) ⟨c + 1, iY _ b l (fun b' l' => ⟨rfl, fp_rel a' b' l' h2 h7 hc ok⟩)⟩
/-! welcome and room: in lockstep -/
theorem fp_cu_c {g fr to fr' to' : Nat → Nat} {left : Int32} : ∀ c, (∀ e, e < c → fr' e = fr e ∧ to' e = to e) → fp_cu g fr' to' left c = fp_cu g fr to left c := by
  intro c
  induction c with
  | zero => intro _; rfl
  | succ c ih =>
    intro h
    have ⟨h1, h2⟩ := h c (by omega)
    show fp_cu g fr' to' left c + (if nI c = left then 0 else if g (fr' c) = g (to' c) then 0 else 1) = fp_cu g fr to left c + (if nI c = left then 0 else if g (fr c) = g (to c) then 0 else 1)
    rw [h1, h2, ih (fun e he => h e (by omega))]
theorem fp_MH_cg {n k c : Nat} {fr to fr' to' : Nat → Nat} {left : Int32} (h : ∀ e, e < c → fr' e = fr e ∧ to' e = to e) : fp_MH n k fr' to' left c = fp_MH n k fr to left c := by
  apply fp_eq_of_le
  intro x
  rw [fp_MH_le, fp_MH_le]
  constructor
  · intro ⟨h1, h2⟩
    exact ⟨h1, fun t ht => by rw [← fp_cu_c c h]; exact h2 t ht⟩
  · intro ⟨h1, h2⟩
    exact ⟨h1, fun t ht => by rw [fp_cu_c c h]; exact h2 t ht⟩
theorem fp_wel {n c : Nat} {o p : Nat → Int32} (h2 : 2 ≤ n) (h7 : n ≤ 7) (hc : c ≤ 16) (ok : fp_Ok n c o p) (v1 v2 v3 : Int32) : ∃ (r : Int32) (o' p' : Nat → Int32), fp_Ok n c o' p' ∧ fp_Two n c o p o' p' r (fun post u => wpX_welcome post u v1 v2 v3) (fun post u => wpY_welcome post u v1 v2 v3) := by
  rcases fp_pair n h7 v1 v2 with ⟨hX, hY, _⟩ | ⟨hX, hY, x, y, rfl, rfl, hx, hy, hxy⟩
  · refine ⟨0, o, p, ok, fun post a h => ?_, fun post b l h => ?_⟩
    · show wpX_welcome post _ v1 v2 v3
      unfold wpX_welcome
      dsimp only
      refine hX _ _ _ _ _ ?_
      exact br_t rfl (h a)
    · show wpY_welcome post _ v1 v2 v3
      unfold wpY_welcome
      dsimp only
      refine hY _ _ _ _ _ _ ?_
      exact br_t rfl (h b l)
  · rcases fp_num v3 with ⟨nX, nY⟩ | ⟨nX, nY, j, hj, rfl⟩
    · refine ⟨0, o, p, ok, fun post a h => ?_, fun post b l h => ?_⟩
      · show wpX_welcome post _ (nI x) (nI y) v3
        unfold wpX_welcome
        dsimp only
        refine hX _ _ _ _ _ ?_
        refine br_f (by decide) ?_
        refine nX _ _ _ _ _ _ ?_
        exact br_t rfl (h a)
      · show wpY_welcome post _ (nI x) (nI y) v3
        unfold wpY_welcome
        dsimp only
        refine hY _ _ _ _ _ _ ?_
        refine br_f (by decide) ?_
        refine nY _ _ _ _ _ _ _ ?_
        exact br_t rfl (h b l)
    · have ok1 : fp_Ok n (c + 1) (upd o c (nI x)) (upd p c (nI y)) := fp_Ok_up h7 ok hx hy hxy (fun i h1 h2 => by omega)
      have ok2 : fp_Ok n c (upd o c (nI x)) (upd p c (nI y)) := fp_Ok_le ok1 (by omega)
      have ec : fp_MH n j (fp_cl (upd o c (nI x))) (fp_cl (upd p c (nI y))) (-1) c = fp_MH n j (fp_cl o) (fp_cl p) (-1) c := fp_MH_cg (fun e he => ⟨fp_cl_un (by omega), fp_cl_un (by omega)⟩)
      have hr : ∃ r : Int32, ∀ P : Int32 → Prop, P r → ((nI (fp_MH n j (fp_cl (upd o c (nI x))) (fp_cl (upd p c (nI y))) (-1) (c + 1)) ≤ nI (fp_MH n j (fp_cl o) (fp_cl p) (-1) c) → P 0) ∧ (¬ nI (fp_MH n j (fp_cl (upd o c (nI x))) (fp_cl (upd p c (nI y))) (-1) (c + 1)) ≤ nI (fp_MH n j (fp_cl o) (fp_cl p) (-1) c) → P 1)) := by
        by_cases z : nI (fp_MH n j (fp_cl (upd o c (nI x))) (fp_cl (upd p c (nI y))) (-1) (c + 1)) ≤ nI (fp_MH n j (fp_cl o) (fp_cl p) (-1) c)
        · exact ⟨0, fun P h => br_t z h⟩
        · exact ⟨1, fun P h => br_f z h⟩
      obtain ⟨r, hr⟩ := hr
      refine ⟨r, upd o c (nI x), upd p c (nI y), ok2, fun post a h => ?_, fun post b l h => ?_⟩
      · show wpX_welcome post _ (nI x) (nI y) (nI j)
        unfold wpX_welcome
        dsimp only
        refine hX _ _ _ _ _ ?_
        refine br_f (by decide) ?_
        refine nX _ _ _ _ _ _ ?_
        refine br_f (by decide) ?_
        refine fx_se (by omega) ?_
        dsimp only
        refine fx_mh h2 h7 (by omega) hj ok2 (fun a' => ?_)
        dsimp only
        rw [nI_1 c, ec]
        refine fx_mh h2 h7 (by omega) hj ok1 (fun a2 => ?_)
        exact hr (fun r => post r (nI n, nI c, upd o c (nI x), upd p c (nI y), a2)) (h a2)
      · show wpY_welcome post _ (nI x) (nI y) (nI j)
        unfold wpY_welcome
        dsimp only
        refine hY _ _ _ _ _ _ ?_
        refine br_f (by decide) ?_
        refine nY _ _ _ _ _ _ _ ?_
        refine br_f (by decide) ?_
        refine fy_hold h2 h7 hc hj ok nY (fun b' l' => ?_)
        refine ⟨pk_in c 17 (by omega), nm_r (congrArg (fun z => upd o z (nI x)) (nI_clamp (by omega))) ⟨pk_in c 17 (by omega), nm_r (congrArg (fun z => upd p z (nI y)) (nI_clamp (by omega))) ?_⟩⟩
        rw [nI_1 c]
        refine fy_fc h2 h7 (by omega) ok1 (fun b2 l2 hl => ?_)
        dsimp only
        refine fy_bd h2 h7 (by omega) hj hl ?_
        exact hr (fun r => post r (nI n, nI c, upd o c (nI x), upd p c (nI y), b2, l2)) (h b2 l2)
theorem i_vc_welcome {k : Nat} {u : SX} {v : SY} (I : i_Rel k u v) (hk : k + 4 ≤ 2049) (v1 : Int32) (v2 : Int32) (v3 : Int32) : wpX_welcome (fun r u' => wpY_welcome (fun r' v' => r' = r ∧ i_Rel (k + 4) u' v') v v1 v2 v3) u v1 v2 v3 := by
  obtain ⟨n, c, o, p, a, b, l, rfl, rfl, h2, h7, hc, ok⟩ := I
  obtain ⟨r, o', p', ok', hX, hY⟩ := fp_wel h2 h7 hc ok v1 v2 v3
  exact hX _ a (fun a' => hY _ b l (fun b' l' => ⟨rfl, fp_rel a' b' l' h2 h7 hc ok'⟩))
theorem fp_rm27 {n c u : Nat} (h2 : 2 ≤ n) (h7 : n ≤ 7) (hc : c ≤ 16) (v3 : Int32) : ∀ d v, v + d = n → ∀ (x2 : Int32) (o p : Nat → Int32), fp_Ok n c o p → ∃ (r : Int32) (o' p' : Nat → Int32), fp_Ok n c o' p' ∧ (∀ (post : Int32 → SX → Prop) (J : Int32 → Int32 → Int32 → Int32 → (Nat → Int32) → (Nat → Int32) → (Nat → Int32) → Prop) (a : Nat → Int32), (∀ a', J r (nI (u + 1)) (nI n) (nI c) o' p' a') → wX_room_27 post J v3 (nI u) (d + 1) x2 (nI v) (nI n) (nI c) o p a) ∧ (∀ (post : Int32 → SY → Prop) (J : Int32 → Int32 → Int32 → Int32 → (Nat → Int32) → (Nat → Int32) → (Nat → Int32) → (Nat → Int32) → Prop) (b l : Nat → Int32), (∀ b' l', J r (nI (u + 1)) (nI n) (nI c) o' p' b' l') → wY_room_27 post J v3 (nI u) (d + 1) x2 (nI v) (nI n) (nI c) o p b l) := by
  intro d
  induction d with
  | zero =>
    intro v hv x2 o p ok
    exact ⟨x2, o, p, ok, fun post J a h => pk_le n v (fun _ => nm_r (nI_1 u) (h a)) (fun z => absurd z (by omega)), fun post J b l h => pk_le n v (fun _ => nm_r (nI_1 u) (h b l)) (fun z => absurd z (by omega))⟩
  | succ d ih =>
    intro v hv x2 o p ok
    obtain ⟨r1, o1, p1, ok1, hX, hY⟩ := fp_wel h2 h7 hc ok (nI u) (nI v) v3
    by_cases z : r1 = 0
    · obtain ⟨r, o2, p2, ok2, iX, iY⟩ := ih (v + 1) (by omega) x2 o1 p1 ok1
      refine ⟨r, o2, p2, ok2, fun post J a h => pk_le n v (fun z => absurd z (by omega)) (fun _ => ?_), fun post J b l h => pk_le n v (fun z => absurd z (by omega)) (fun _ => ?_)⟩
      · refine hX _ a (fun a' => ?_)
        exact br_t z (nm_r (nI_1 v) (iX post J a' h))
      · refine hY _ b l (fun b' l' => ?_)
        exact br_t z (nm_r (nI_1 v) (iY post J b' l' h))
    · obtain ⟨r, o2, p2, ok2, iX, iY⟩ := ih (v + 1) (by omega) (x2 + 1) o1 p1 ok1
      refine ⟨r, o2, p2, ok2, fun post J a h => pk_le n v (fun z => absurd z (by omega)) (fun _ => ?_), fun post J b l h => pk_le n v (fun z => absurd z (by omega)) (fun _ => ?_)⟩
      · refine hX _ a (fun a' => ?_)
        exact br_f z (nm_e (nm_r (nI_1 v) (iX post J a' h)))
      · refine hY _ b l (fun b' l' => ?_)
        exact br_f z (nm_e (nm_r (nI_1 v) (iY post J b' l' h)))
theorem fp_rm14 {n c : Nat} (h2 : 2 ≤ n) (h7 : n ≤ 7) (hc : c ≤ 16) (v3 : Int32) : ∀ d u, u + d = n → ∀ (x2 : Int32) (o p : Nat → Int32), fp_Ok n c o p → ∃ (r : Int32) (o' p' : Nat → Int32), fp_Ok n c o' p' ∧ (∀ (post : Int32 → SX → Prop) (a : Nat → Int32), (∀ a', post r (nI n, nI c, o', p', a')) → wX_room_14 post v3 (d + 1) x2 (nI u) (nI n) (nI c) o p a) ∧ (∀ (post : Int32 → SY → Prop) (b l : Nat → Int32), (∀ b' l', post r (nI n, nI c, o', p', b', l')) → wY_room_14 post v3 (d + 1) x2 (nI u) (nI n) (nI c) o p b l) := by
  intro d
  induction d with
  | zero =>
    intro u hu x2 o p ok
    exact ⟨x2, o, p, ok, fun post a h => pk_le n u (fun _ => h a) (fun z => absurd z (by omega)), fun post b l h => pk_le n u (fun _ => h b l) (fun z => absurd z (by omega))⟩
  | succ d ih =>
    intro u hu x2 o p ok
    obtain ⟨r1, o1, p1, ok1, hX, hY⟩ := fp_rm27 (u := u) h2 h7 hc v3 d (u + 1) (by omega) x2 o p ok
    obtain ⟨r, o2, p2, ok2, iX, iY⟩ := ih (u + 1) (by omega) r1 o1 p1 ok1
    refine ⟨r, o2, p2, ok2, fun post a h => pk_le n u (fun z => absurd z (by omega)) (fun _ => nm_r (nI_1 u) ⟨d + 1, ?_⟩), fun post b l h => pk_le n u (fun z => absurd z (by omega)) (fun _ => nm_r (nI_1 u) ⟨d + 1, ?_⟩)⟩
    · exact hX post (wX_room_14 post v3 (d + 1)) a (fun a' => iX post a' h)
    · exact hY post (wY_room_14 post v3 (d + 1)) b l (fun b' l' => iY post b' l' h)
theorem i_vc_room {k : Nat} {u : SX} {v : SY} (I : i_Rel k u v) (hk : k + 4 ≤ 2049) (v1 : Int32) : wpX_room (fun r u' => wpY_room (fun r' v' => r' = r ∧ i_Rel (k + 4) u' v') v v1) u v1 := by
  obtain ⟨n, c, o, p, a, b, l, rfl, rfl, h2, h7, hc, ok⟩ := I
  unfold wpX_room
  dsimp only
  rcases fp_num v1 with ⟨hX, hY⟩ | ⟨hX, hY, j, hj, rfl⟩
  · refine hX _ _ _ _ _ _ ?_
    refine br_t rfl ?_
    unfold wpY_room
    dsimp only
    refine hY _ _ _ _ _ _ _ ?_
    exact br_t rfl ⟨rfl, fp_rel a b l h2 h7 hc ok⟩
  · obtain ⟨r, o', p', ok', iX, iY⟩ := fp_rm14 h2 h7 hc (nI j) n 0 (by omega) 0 o p ok
    refine hX _ _ _ _ _ _ ?_
    refine br_f (by decide) ⟨n + 1, iX _ a (fun a' => ?_)⟩
    unfold wpY_room
    dsimp only
    refine hY _ _ _ _ _ _ _ ?_
    exact br_f (by decide) ⟨n + 1, iY _ b l (fun b' l' => ⟨rfl, fp_rel a' b' l' h2 h7 hc ok'⟩)⟩
