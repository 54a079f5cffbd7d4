/-! the relation: both sides show the same arcs below the count -/
def cr_R (c : Nat) (p q l h : Nat → Nat) (a1 a2 a3 a4 b1 b2 b3 b4 : Nat → Int32) : Prop := (∀ j, j < c → l j ≤ h j ∧ h j ≤ 20) ∧ ck_H 12 c p q l h a1 a2 a3 a4 ∧ ck_H 12 c p q l h b1 b2 b3 b4
def i_Rel (k : Nat) (u : SX) (v : SY) : Prop := ∃ (c : Nat) (p q l h : Nat → Nat) (a1 a2 a3 a4 b1 b2 b3 b4 : Nat → Int32), cr_R c p q l h a1 a2 a3 a4 b1 b2 b3 b4 ∧ u = (nI c, a1, a2, a3, a4) ∧ v = (nI c, b1, b2, b3, b4)
theorem cr_mk {k c : Nat} {p q l h : Nat → Nat} {a1 a2 a3 a4 b1 b2 b3 b4 : Nat → Int32} (R : cr_R c p q l h a1 a2 a3 a4 b1 b2 b3 b4) : i_Rel k (nI c, a1, a2, a3, a4) (nI c, b1, b2, b3, b4) := ⟨c, p, q, l, h, a1, a2, a3, a4, b1, b2, b3, b4, R, rfl, rfl⟩
theorem i_up {k : Nat} {u : SX} {v : SY} (h : i_Rel k u v) : i_Rel (k + 4) u v := h
theorem i_vc0 : wpX_init (fun u => wpY_init (fun v => i_Rel 0 u v)) := by
  have H : ck_H 12 0 (fun _ => 0) (fun _ => 0) (fun _ => 0) (fun _ => 0) (fun _ => 0) (fun _ => 0) (fun _ => 0) (fun _ => 0) := ⟨by omega, fun j hj => by omega⟩
  exact cr_mk (k := 0) (c := 0) ⟨fun j hj => by omega, H, H⟩
theorem ck_H13 {c : Nat} {p q l h : Nat → Nat} {a1 a2 a3 a4 : Nat → Int32} (H : ck_H 12 c p q l h a1 a2 a3 a4) : ck_H 13 c p q l h a1 a2 a3 a4 := ⟨by have := H.1; omega, H.2⟩
theorem ck_Hset {N c a x y : Nat} {p q l h : Nat → Nat} {a1 a2 a3 a4 : Nat → Int32} (H : ck_H N c p q l h a1 a2 a3 a4) (hx : x ≤ 240) (hy : y ≤ 240) : ck_H N c p q (ck_u l a x) (ck_u h a y) a1 a2 (upd a3 a (nI x)) (upd a4 a (nI y)) := by
  refine ⟨H.1, fun j hj => ?_⟩
  obtain ⟨h1, h2, h3, h4, e1, e2, e3, e4⟩ := H.2 j hj
  by_cases e : j = a
  · subst e
    rw [ck_us, ck_us, pk_us, pk_us]
    exact ⟨h1, h2, hx, hy, e1, e2, rfl, rfl⟩
  · rw [ck_un _ _ e, ck_un _ _ e, pk_un e, pk_un e]
    exact ⟨h1, h2, h3, h4, e1, e2, e3, e4⟩
theorem ck_Hrev {N c a : Nat} {p q l h : Nat → Nat} {a1 a2 a3 a4 : Nat → Int32} (H : ck_H N c p q l h a1 a2 a3 a4) (ha : a < c) : ck_H N c (ck_u p a (q a)) (ck_u q a (p a)) l h (upd a1 a (a2 a)) (upd a2 a (a1 a)) a3 a4 := by
  refine ⟨H.1, fun j hj => ?_⟩
  obtain ⟨h1, h2, h3, h4, e1, e2, e3, e4⟩ := H.2 j hj
  by_cases e : j = a
  · subst e
    rw [ck_us, ck_us, pk_us, pk_us]
    exact ⟨h2, h1, h3, h4, e2, e1, e3, e4⟩
  · rw [ck_un _ _ e, ck_un _ _ e, pk_un e, pk_un e]
    exact ⟨h1, h2, h3, h4, e1, e2, e3, e4⟩
theorem ck_Hnew {N c a b x y : Nat} {p q l h : Nat → Nat} {a1 a2 a3 a4 : Nat → Int32} (H : ck_H N c p q l h a1 a2 a3 a4) (hc : c < N) (ha : a < 6) (hb : b < 6) (hx : x ≤ 240) (hy : y ≤ 240) : ck_H N (c + 1) (ck_u p c a) (ck_u q c b) (ck_u l c x) (ck_u h c y) (upd a1 c (nI a)) (upd a2 c (nI b)) (upd a3 c (nI x)) (upd a4 c (nI y)) := by
  refine ⟨hc, fun j hj => ?_⟩
  by_cases e : j = c
  · subst e
    rw [ck_us, ck_us, ck_us, ck_us, pk_us, pk_us, pk_us, pk_us]
    exact ⟨ha, hb, hx, hy, rfl, rfl, rfl, rfl⟩
  · obtain ⟨h1, h2, h3, h4, e1, e2, e3, e4⟩ := H.2 j (by omega)
    rw [ck_un _ _ e, ck_un _ _ e, ck_un _ _ e, ck_un _ _ e, pk_un e, pk_un e, pk_un e, pk_un e]
    exact ⟨h1, h2, h3, h4, e1, e2, e3, e4⟩
theorem ck_Hless {N c d : Nat} {p q l h : Nat → Nat} {a1 a2 a3 a4 : Nat → Int32} (H : ck_H N c p q l h a1 a2 a3 a4) (hd : d ≤ c) : ck_H N d p q l h a1 a2 a3 a4 := ⟨by have := H.1; omega, fun j hj => H.2 j (by omega)⟩
/-! vertices and arcs named in a call -/
theorem cr_v6 {v : Int32} (h0 : ¬ v < 0) (h6 : ¬ 6 ≤ v) : ∃ j, j < 6 ∧ v = nI j := by
  obtain ⟨j, hj, rfl⟩ := nI_of h0
  refine ⟨j, ?_, rfl⟩
  by_cases e : j < 6
  · exact e
  · exact absurd (nI_le (a := 6) (by omega) hj) h6
theorem cr_v5 {v : Int32} (h0 : ¬ v < 0) (h5 : ¬ 5 < v) : ∃ j, j < 6 ∧ v = nI j := by
  obtain ⟨j, hj, rfl⟩ := nI_of h0
  refine ⟨j, ?_, rfl⟩
  by_cases e : j < 6
  · exact e
  · exact absurd (nI_lt (a := 5) (by omega) hj) h5
theorem cr_ne {s t : Nat} (hs : s < 6) (ht : t < 6) (h : s ≠ t) : ¬ nI s = nI t := fun e => h ((nI_eq (by omega) (by omega)).mp e)
theorem xk_two {post : Int32 → Prop} {u : SX} {s t : Nat} (hs : s < 6) (ht : t < 6) (h : s ≠ t) (hp : post 1) : wpX_areTwoVertices post u (nI s) (nI t) := by
  obtain ⟨c, a1, a2, a3, a4⟩ := u
  unfold wpX_areTwoVertices
  dsimp only
  exact br_f (nI_pos (by omega)) (br_f (nI_ge (b := 6) hs (by omega)) (br_f (nI_pos (by omega)) (br_f (nI_ge (b := 6) ht (by omega)) (br_f (cr_ne hs ht h) hp))))
theorem yk_vert {post : Int32 → Prop} {u : SY} {s : Nat} (hs : s < 6) (hp : post 1) : wpY_isVertex post u (nI s) := by
  obtain ⟨c, a1, a2, a3, a4⟩ := u
  unfold wpY_isVertex
  dsimp only
  exact br_f (nI_pos (by omega)) (br_f (nI_nlt (a := 5) (by omega) (by omega)) hp)
theorem cr_two (v1 v2 : Int32) : (∃ s t : Nat, s < 6 ∧ t < 6 ∧ s ≠ t ∧ v1 = nI s ∧ v2 = nI t) ∨ ((∀ (post : Int32 → Prop) (u : SX), post 0 → wpX_areTwoVertices post u v1 v2) ∧ (∀ (A B : Prop) (u : SY), A → wpY_isVertex (fun r => (r = 0 → A) ∧ (¬ r = 0 → wpY_isVertex (fun r' => (r' = 0 → A) ∧ (¬ r' = 0 → ((v1 = v2 → A) ∧ (¬ v1 = v2 → B)))) u v2)) u v1)) := by
  by_cases g : ∃ s t : Nat, s < 6 ∧ t < 6 ∧ s ≠ t ∧ v1 = nI s ∧ v2 = nI t
  · exact Or.inl g
  · have mk : (∃ j, j < 6 ∧ v1 = nI j) → (∃ j, j < 6 ∧ v2 = nI j) → ¬ v1 = v2 → False := by
      intro ⟨s, hs, e1⟩ ⟨t, ht, e2⟩ hne
      exact g ⟨s, t, hs, ht, fun e => hne (by rw [e1, e2, e]), e1, e2⟩
    refine Or.inr ⟨fun post u hp => ?_, fun A B u hA => ?_⟩
    · obtain ⟨c, a1, a2, a3, a4⟩ := u
      unfold wpX_areTwoVertices
      dsimp only
      exact br_c (fun _ => hp) (fun h1 => br_c (fun _ => hp) (fun h2 => br_c (fun _ => hp) (fun h3 => br_c (fun _ => hp) (fun h4 => br_c (fun _ => hp) (fun h5 => (mk (cr_v6 h1 h2) (cr_v6 h3 h4) h5).elim)))))
    · obtain ⟨c, a1, a2, a3, a4⟩ := u
      unfold wpY_isVertex
      dsimp only
      exact br_c (fun _ => br_t rfl hA) (fun h1 => br_c (fun _ => br_t rfl hA) (fun h2 => br_f (by decide) (br_c (fun _ => br_t rfl hA) (fun h3 => br_c (fun _ => br_t rfl hA) (fun h4 => br_f (by decide) (br_c (fun _ => hA) (fun h5 => (mk (cr_v5 h1 h2) (cr_v5 h3 h4) h5).elim)))))))
theorem xk_isArc {post : Int32 → Prop} {c a : Nat} {a1 a2 a3 a4 : Nat → Int32} (hc : c ≤ 12) (ha : a < c) (hp : post 1) : wpX_isArc post (nI c, a1, a2, a3, a4) (nI a) :=
  br_f (nI_pos (by omega)) (br_f (nI_ge ha (by omega)) hp)
theorem yk_isArc {post : Int32 → Prop} {c a : Nat} {a1 a2 a3 a4 : Nat → Int32} (hc : c ≤ 12) (ha : a < c) (hp : post 1) : wpY_isArc post (nI c, a1, a2, a3, a4) (nI a) :=
  br_f (nI_pos (by omega)) (br_f (nI_ge ha (by omega)) hp)
theorem cr_arc {c : Nat} (hc : c ≤ 12) (v : Int32) : (∃ a, a < c ∧ v = nI a) ∨ ((∀ (post : Int32 → Prop) (a1 a2 a3 a4 : Nat → Int32), post 0 → wpX_isArc post (nI c, a1, a2, a3, a4) v) ∧ (∀ (post : Int32 → Prop) (a1 a2 a3 a4 : Nat → Int32), post 0 → wpY_isArc post (nI c, a1, a2, a3, a4) v)) := by
  by_cases g : ∃ a, a < c ∧ v = nI a
  · exact Or.inl g
  · have mk : ¬ v < 0 → ¬ nI c ≤ v → False := by
      intro h0 h1
      obtain ⟨j, hj, rfl⟩ := nI_of h0
      by_cases e : j < c
      · exact g ⟨j, e, rfl⟩
      · exact h1 (nI_le (by omega) hj)
    exact Or.inr ⟨fun post a1 a2 a3 a4 hp => br_c (fun _ => hp) (fun h1 => br_c (fun _ => hp) (fun h2 => (mk h1 h2).elim)), fun post a1 a2 a3 a4 hp => br_c (fun _ => hp) (fun h1 => br_c (fun _ => hp) (fun h2 => (mk h1 h2).elim))⟩
/-! the methods that change the network -/
theorem i_vc_arc {k : Nat} {u : SX} {v : SY} (I : i_Rel k u v) (hk : k + 4 ≤ 2048) (v1 : Int32) (v2 : Int32) (v3 : Int32) : wpX_arc (fun r u' => wpY_arc (fun r' v' => r' = r ∧ i_Rel (k + 4) u' v') v v1 v2 v3) u v1 v2 v3 := by
  obtain ⟨c, p, q, l, h, a1, a2, a3, a4, b1, b2, b3, b4, R, rfl, rfl⟩ := I
  have R0 : i_Rel (k + 4) (nI c, a1, a2, a3, a4) (nI c, b1, b2, b3, b4) := cr_mk R
  obtain ⟨hv, HX, HY⟩ := R
  have hc := HX.1
  unfold wpX_arc wpY_arc
  dsimp only
  rcases cr_two v1 v2 with ⟨s, t, hs, ht, hne, rfl, rfl⟩ | ⟨bX, bY⟩
  · refine xk_two hs ht hne (br_f (by decide) (br_c (fun h1 => ?_) (fun h1 => br_c (fun h2 => ?_) (fun h2 => ?_))))
    · exact yk_vert hs (br_f (by decide) (yk_vert ht (br_f (by decide) (br_f (cr_ne hs ht hne) (br_t h1 ⟨rfl, R0⟩)))))
    · by_cases hf : c < 12
      · obtain ⟨x, hx, rfl⟩ := nI_of2 (M := 20) (n := 20) (by decide) h1 h2
        have hin : vp_in (nI c) 12 := vp_in_nI (by omega) (by omega)
        rw [nI_clamp (by omega)]
        refine br_t (nI_lt (b := 12) hf (by omega)) ⟨hin, nm_e ⟨hin, nm_e ⟨hin, nm_e ⟨hin, nm_e (nm_r (nI_1 c) ?_)⟩⟩⟩⟩
        refine yk_vert hs (br_f (by decide) (yk_vert ht (br_f (by decide) (br_f (cr_ne hs ht hne) (br_f h1 (br_t h2 (br_f ?_ (yk_place (by omega) (nm_r (nI_1 c) ⟨nI_pred c, cr_mk (p := ck_u p c s) (q := ck_u q c t) (l := ck_u l c 0) (h := ck_u h c x) ⟨?_, ck_Hnew HX hf hs ht (by omega) (by omega), ck_Hnew HY hf hs ht (by omega) (by omega)⟩⟩)))))))))
        · exact fun e => absurd ((nI_eq (a := c) (b := 12) (by omega) (by omega)).mp e) (by omega)
        · intro j hj
          by_cases e : j = c
          · subst e; rw [ck_us, ck_us]; omega
          · rw [ck_un _ _ e, ck_un _ _ e]; exact hv j (by omega)
      · have e : c = 12 := by omega
        subst e
        exact br_f (nI_nlt (b := 12) (Nat.le_refl _) (by omega)) (yk_vert hs (br_f (by decide) (yk_vert ht (br_f (by decide) (br_f (cr_ne hs ht hne) (br_f h1 (br_t h2 (br_t rfl ⟨rfl, R0⟩))))))))
    · exact yk_vert hs (br_f (by decide) (yk_vert ht (br_f (by decide) (br_f (cr_ne hs ht hne) (br_f h1 (br_f h2 ⟨rfl, R0⟩))))))
  · exact bX _ _ (br_t rfl (bY _ _ _ ⟨rfl, R0⟩))
theorem i_vc_bounds {k : Nat} {u : SX} {v : SY} (I : i_Rel k u v) (hk : k + 4 ≤ 2048) (v1 : Int32) (v2 : Int32) (v3 : Int32) : wpX_bounds (fun r u' => wpY_bounds (fun r' v' => r' = r ∧ i_Rel (k + 4) u' v') v v1 v2 v3) u v1 v2 v3 := by
  obtain ⟨c, p, q, l, h, a1, a2, a3, a4, b1, b2, b3, b4, R, rfl, rfl⟩ := I
  have R0 : i_Rel (k + 4) (nI c, a1, a2, a3, a4) (nI c, b1, b2, b3, b4) := cr_mk R
  obtain ⟨hv, HX, HY⟩ := R
  have hc := HX.1
  unfold wpX_bounds wpY_bounds
  dsimp only
  rcases cr_arc hc v1 with ⟨a, ha, rfl⟩ | ⟨bX, bY⟩
  · refine xk_isArc hc ha (br_f (by decide) (br_c (fun h1 => ?_) (fun h1 => br_c (fun h2 => ?_) (fun h2 => br_c (fun h3 => ?_) (fun h3 => ?_)))))
    · exact yk_isArc hc ha (br_f (by decide) (br_t h1 ⟨rfl, R0⟩))
    · exact yk_isArc hc ha (br_f (by decide) (br_f h1 (br_t h2 ⟨rfl, R0⟩)))
    · have h0 : ¬ v3 < 0 := by
        obtain ⟨x, hx, rfl⟩ := nI_of h1
        exact fun z => h2 (Int32.lt_of_lt_of_le z (nI_pos' hx))
      obtain ⟨x, hx, rfl⟩ := nI_of h1
      obtain ⟨y, hy, rfl⟩ := nI_of2 (M := 20) (n := 20) (by decide) h0 h3
      have hxy : x ≤ y := by
        by_cases e : x ≤ y
        · exact e
        · exact absurd (nI_lt (by omega) hx) h2
      have inX : vp_in (nI a) 12 := vp_in_nI (by omega) (by omega)
      have inY : vp_in (nI a) 13 := vp_in_nI (by omega) (by omega)
      rw [nI_clamp (n := a) (by omega)]
      refine ⟨inX, nm_e ⟨inX, nm_e (yk_isArc hc ha (br_f (by decide) (br_f h1 (br_f h2 (br_t h3 ⟨inY, nm_e ⟨inY, nm_e ⟨rfl, cr_mk (l := ck_u l a x) (h := ck_u h a y) ⟨?_, ck_Hset HX (by omega) (by omega), ck_Hset HY (by omega) (by omega)⟩⟩⟩⟩)))))⟩⟩
      intro j hj
      by_cases e : j = a
      · subst e; rw [ck_us, ck_us]; omega
      · rw [ck_un _ _ e, ck_un _ _ e]; exact hv j hj
    · exact yk_isArc hc ha (br_f (by decide) (br_f h1 (br_f h2 (br_f h3 ⟨rfl, R0⟩))))
  · exact bX _ _ _ _ _ (br_t rfl (bY _ _ _ _ _ (br_t rfl ⟨rfl, R0⟩)))
theorem i_vc_reverse {k : Nat} {u : SX} {v : SY} (I : i_Rel k u v) (hk : k + 4 ≤ 2048) (v1 : Int32) : wpX_reverse (fun r u' => wpY_reverse (fun r' v' => r' = r ∧ i_Rel (k + 4) u' v') v v1) u v1 := by
  obtain ⟨c, p, q, l, h, a1, a2, a3, a4, b1, b2, b3, b4, R, rfl, rfl⟩ := I
  have R0 : i_Rel (k + 4) (nI c, a1, a2, a3, a4) (nI c, b1, b2, b3, b4) := cr_mk R
  obtain ⟨hv, HX, HY⟩ := R
  have hc := HX.1
  unfold wpX_reverse wpY_reverse
  dsimp only
  rcases cr_arc hc v1 with ⟨a, ha, rfl⟩ | ⟨bX, bY⟩
  · have inX : vp_in (nI a) 12 := vp_in_nI (by omega) (by omega)
    have inY : vp_in (nI a) 13 := vp_in_nI (by omega) (by omega)
    rw [nI_clamp (n := a) (by omega)]
    exact xk_isArc hc ha (br_f (by decide) ⟨inX, nm_e ⟨inX, inX, nm_e ⟨inX, nm_e (yk_isArc hc ha (br_f (by decide) ⟨inY, nm_e ⟨inY, inY, nm_e ⟨inY, nm_e ⟨rfl, cr_mk ⟨hv, ck_Hrev HX ha, ck_Hrev HY ha⟩⟩⟩⟩⟩))⟩⟩⟩)
  · exact bX _ _ _ _ _ (br_t rfl (bY _ _ _ _ _ (br_t rfl ⟨rfl, R0⟩)))
theorem i_vc_dropLast {k : Nat} {u : SX} {v : SY} (I : i_Rel k u v) (hk : k + 4 ≤ 2048) : wpX_dropLast (fun r u' => wpY_dropLast (fun r' v' => r' = r ∧ i_Rel (k + 4) u' v') v) u := by
  obtain ⟨c, p, q, l, h, a1, a2, a3, a4, b1, b2, b3, b4, R, rfl, rfl⟩ := I
  have R0 : i_Rel (k + 4) (nI c, a1, a2, a3, a4) (nI c, b1, b2, b3, b4) := cr_mk R
  obtain ⟨hv, HX, HY⟩ := R
  have hc := HX.1
  unfold wpX_dropLast wpY_dropLast
  dsimp only
  cases c with
  | zero => exact br_f (by decide) (br_t rfl ⟨rfl, R0⟩)
  | succ c => exact br_t (nI_lt (a := 0) (by omega) (by omega)) (nm_r (nI_pred c) (br_f (nI_ne0 (by omega) (by omega)) (nm_r (nI_pred c) ⟨rfl, cr_mk ⟨fun j hj => hv j (by omega), ck_Hless HX (by omega), ck_Hless HY (by omega)⟩⟩)))
/-! the questions -/
theorem i_vc_possible {k : Nat} {u : SX} {v : SY} (I : i_Rel k u v) (hk : k + 4 ≤ 2048) : wpX_possible (fun r => wpY_possible (fun r' => r' = r ∧ i_Rel (k + 4) u v) v) u := by
  obtain ⟨c, p, q, l, h, a1, a2, a3, a4, b1, b2, b3, b4, R, rfl, rfl⟩ := I
  have R0 : i_Rel (k + 4) (nI c, a1, a2, a3, a4) (nI c, b1, b2, b3, b4) := cr_mk R
  obtain ⟨hv, HX, HY⟩ := R
  have HZ := ck_H13 HY
  have hw := cz_eq0 (ck_WS HZ (by omega))
  unfold wpX_possible wpY_possible
  dsimp only
  exact xk_greatest HX (cz_b hw (fun e => yk_worst HZ (cz_b hw (fun _ => ⟨rfl, R0⟩) (fun z => absurd e z))) (fun e => yk_worst HZ (cz_b hw (fun z => absurd z e) (fun _ => ⟨rfl, R0⟩))))
theorem i_vc_lack {k : Nat} {u : SX} {v : SY} (I : i_Rel k u v) (hk : k + 4 ≤ 2048) : wpX_lack (fun r => wpY_lack (fun r' => r' = r ∧ i_Rel (k + 4) u v) v) u := by
  obtain ⟨c, p, q, l, h, a1, a2, a3, a4, b1, b2, b3, b4, R, rfl, rfl⟩ := I
  have R0 : i_Rel (k + 4) (nI c, a1, a2, a3, a4) (nI c, b1, b2, b3, b4) := cr_mk R
  obtain ⟨hv, HX, HY⟩ := R
  unfold wpX_lack wpY_lack
  dsimp only
  exact xk_greatest HX (yk_worst (ck_H13 HY) ⟨rfl, R0⟩)
theorem i_vc_lackingSet {k : Nat} {u : SX} {v : SY} (I : i_Rel k u v) (hk : k + 4 ≤ 2048) : wpX_lackingSet (fun r => wpY_lackingSet (fun r' => r' = r ∧ i_Rel (k + 4) u v) v) u := by
  obtain ⟨c, p, q, l, h, a1, a2, a3, a4, b1, b2, b3, b4, R, rfl, rfl⟩ := I
  have R0 : i_Rel (k + 4) (nI c, a1, a2, a3, a4) (nI c, b1, b2, b3, b4) := cr_mk R
  obtain ⟨hv, HX, HY⟩ := R
  unfold wpX_lackingSet wpY_lackingSet
  dsimp only
  refine xk_greatest HX ⟨65, ?_⟩
  refine xk_lsL HX ?_ 64 0 65 (by omega) (by omega)
  refine yk_worst (ck_H13 HY) ⟨65, ?_⟩
  exact yk_lsL (ck_H13 HY) ⟨rfl, R0⟩ 64 0 65 (by omega) (by omega)
theorem i_vc_arcs {k : Nat} {u : SX} {v : SY} (I : i_Rel k u v) (hk : k + 4 ≤ 2048) : wpX_arcs (fun r => wpY_arcs (fun r' => r' = r ∧ i_Rel (k + 4) u v) v) u := by
  obtain ⟨c, p, q, l, h, a1, a2, a3, a4, b1, b2, b3, b4, R, rfl, rfl⟩ := I
  exact ⟨rfl, cr_mk R⟩
theorem i_vc_least {k : Nat} {u : SX} {v : SY} (I : i_Rel k u v) (hk : k + 4 ≤ 2048) (v1 : Int32) : wpX_least (fun r => wpY_least (fun r' v' => r' = r ∧ i_Rel (k + 4) u v') v v1) u v1 := by
  obtain ⟨c, p, q, l, h, a1, a2, a3, a4, b1, b2, b3, b4, R, rfl, rfl⟩ := I
  have R0 : i_Rel (k + 4) (nI c, a1, a2, a3, a4) (nI c, b1, b2, b3, b4) := cr_mk R
  obtain ⟨hv, HX, HY⟩ := R
  have hc := HX.1
  have HZ := ck_H13 HY
  unfold wpX_least wpY_least
  dsimp only
  rcases cr_arc hc v1 with ⟨a, ha, rfl⟩ | ⟨bX, bY⟩
  · have inX : vp_in (nI a) 12 := vp_in_nI (by omega) (by omega)
    have inY : vp_in (nI a) 13 := vp_in_nI (by omega) (by omega)
    obtain ⟨_, _, _, _, e1, e2, e3, e4⟩ := HX.2 a ha
    obtain ⟨_, _, _, _, f1, f2, f3, f4⟩ := HY.2 a ha
    have hla := hv a ha
    rw [nI_clamp (n := a) (by omega)]
    refine xk_isArc hc ha (br_f (by decide) (xk_greatest HX (cz_b (cz_eq0 (ck_WS HX (by omega))) (fun hW => ?_) (fun hW => ?_))))
    · obtain ⟨m, em, hm1, hm2, hok, hno⟩ := ck_least_p p q l h c a ha (fun j hj => (hv j hj).1) hW
      refine ⟨inX, nm_r e1 ⟨inX, nm_r e2 ⟨inX, nm_r (e3.trans (cz_n _)) ⟨65, ?_⟩⟩⟩⟩
      refine xk_leastL HX ha ?_ 64 0 65 (by omega) (by omega)
      rw [em, ← cz_n]
      refine yk_isArc hc ha (br_f (by decide) ⟨inY, nm_r f3 ⟨m - l a + 1, ?_⟩⟩)
      exact yk_leastA HZ ha hm2 hok hno ⟨rfl, R0⟩ (m - l a) (l a) (m - l a + 1) (by omega) (by omega) (by omega)
    · refine yk_isArc hc ha (br_f (by decide) ⟨inY, nm_r f3 ⟨h a + 1 - l a + 1, ?_⟩⟩)
      exact yk_leastB HZ ha (fun y h1 h2 => ck_never p q l h c a y ha hW h1 h2) ⟨rfl, R0⟩ (h a + 1 - l a) (l a) _ (by omega) (by omega) (by omega)
  · exact bX _ _ _ _ _ (br_t rfl (bY _ _ _ _ _ (br_t rfl ⟨rfl, R0⟩)))
theorem i_vc_most {k : Nat} {u : SX} {v : SY} (I : i_Rel k u v) (hk : k + 4 ≤ 2048) (v1 : Int32) : wpX_most (fun r => wpY_most (fun r' v' => r' = r ∧ i_Rel (k + 4) u v') v v1) u v1 := by
  obtain ⟨c, p, q, l, h, a1, a2, a3, a4, b1, b2, b3, b4, R, rfl, rfl⟩ := I
  have R0 : i_Rel (k + 4) (nI c, a1, a2, a3, a4) (nI c, b1, b2, b3, b4) := cr_mk R
  obtain ⟨hv, HX, HY⟩ := R
  have hc := HX.1
  have HZ := ck_H13 HY
  unfold wpX_most wpY_most
  dsimp only
  rcases cr_arc hc v1 with ⟨a, ha, rfl⟩ | ⟨bX, bY⟩
  · have inX : vp_in (nI a) 12 := vp_in_nI (by omega) (by omega)
    have inY : vp_in (nI a) 13 := vp_in_nI (by omega) (by omega)
    obtain ⟨_, _, _, _, e1, e2, e3, e4⟩ := HX.2 a ha
    obtain ⟨_, _, _, _, f1, f2, f3, f4⟩ := HY.2 a ha
    have hla := hv a ha
    rw [nI_clamp (n := a) (by omega)]
    refine xk_isArc hc ha (br_f (by decide) (xk_greatest HX (cz_b (cz_eq0 (ck_WS HX (by omega))) (fun hW => ?_) (fun hW => ?_))))
    · obtain ⟨m, em, hm1, hm2, hok, hno⟩ := ck_most_p p q l h c a ha (fun j hj => (hv j hj).1) hW
      refine ⟨inX, nm_r e1 ⟨inX, nm_r e2 ⟨inX, nm_r (e4.trans (cz_n _)) ⟨65, ?_⟩⟩⟩⟩
      refine xk_mostL HX ha ?_ 64 0 65 (by omega) (by omega)
      rw [em, ← cz_n]
      refine yk_isArc hc ha (br_f (by decide) ⟨inY, nm_r (e' := nI (m + (h a - m))) ?_ ⟨h a - m + 1, ?_⟩⟩)
      · rw [f4]; exact congrArg nI (by omega)
      · exact yk_mostA HZ ha hm1 hok hno ⟨rfl, R0⟩ (h a - m) (h a - m + 1) (by omega) (by omega)
    · refine yk_isArc hc ha (br_f (by decide) ⟨inY, nm_r (e' := nI (l a + (h a + 1 - l a)) + (-1)) ?_ ⟨h a + 1 - l a + 1, ?_⟩⟩)
      · rw [f4, show l a + (h a + 1 - l a) = h a + 1 from by omega, pk_m1]
      · exact yk_mostB HZ ha (fun y h1 h2 => ck_never p q l h c a y ha hW h1 h2) ⟨rfl, R0⟩ (h a + 1 - l a) _ (by omega) (by omega)
  · exact bX _ _ _ _ _ (br_t rfl (bY _ _ _ _ _ (br_t rfl ⟨rfl, R0⟩)))
theorem i_vc_through {k : Nat} {u : SX} {v : SY} (I : i_Rel k u v) (hk : k + 4 ≤ 2048) (v1 : Int32) (v2 : Int32) : wpX_through (fun r => wpY_through (fun r' v' => r' = r ∧ i_Rel (k + 4) u v') v v1 v2) u v1 v2 := by
  obtain ⟨c, p, q, l, h, a1, a2, a3, a4, b1, b2, b3, b4, R, rfl, rfl⟩ := I
  have R0 : i_Rel (k + 4) (nI c, a1, a2, a3, a4) (nI c, b1, b2, b3, b4) := cr_mk R
  obtain ⟨hv, HX, HY⟩ := R
  have hc := HX.1
  have RB : ∀ d1 d2 d3 d4, ck_H 12 c p q l h d1 d2 d3 d4 → i_Rel (k + 4) (nI c, a1, a2, a3, a4) (nI c, d1, d2, d3, d4) := fun d1 d2 d3 d4 HD => cr_mk ⟨hv, HX, HD⟩
  unfold wpX_through wpY_through
  dsimp only
  rcases cr_two v1 v2 with ⟨s, t, hs, ht, hne, rfl, rfl⟩ | ⟨bX, bY⟩
  · have yB : (∀ y, ¬ ck_T p q l h c s t y) → ∃ n, wY_through_27 (fun r' v' => r' = -5 ∧ i_Rel (k + 4) (nI c, a1, a2, a3, a4) v') (nI s) (nI t) n 240 (nI c) b1 b2 b3 b4 := by
      intro hno
      refine ⟨242, ?_⟩
      have := yk_thrB (post := fun r' v' => r' = -5 ∧ i_Rel (k + 4) (nI c, a1, a2, a3, a4) v') hs ht hno (fun d1 d2 d3 d4 HD => ⟨rfl, RB d1 d2 d3 d4 HD⟩) 241 242 (by omega) (by omega) b1 b2 b3 b4 HY
      rw [pk_m1] at this
      exact this
    refine xk_two hs ht hne (br_f (by decide) (xk_room HX hs ht ?_))
    rcases ck_through_p p q l h c s t hs ht hne hc (fun j hj => by have := hv j hj; omega) with ⟨m, hm, er, hbig, hall⟩ | ⟨hneg, hlo, hall⟩
    · rw [er, ← cz_n]
      refine br_f (nI_pos (by omega)) (xk_poss HX hs ht hm (fun hT => br_f (by decide) ?_) (fun hF => br_t rfl ?_))
      · refine yk_vert hs (br_f (by decide) (yk_vert ht (br_f (by decide) (br_f (cr_ne hs ht hne) ⟨240 - m + 1, ?_⟩))))
        have := yk_thrA (post := fun r' v' => r' = nI m ∧ i_Rel (k + 4) (nI c, a1, a2, a3, a4) v') hs ht hT hbig (fun d1 d2 d3 d4 HD => ⟨rfl, RB d1 d2 d3 d4 HD⟩) (240 - m) (240 - m + 1) (by omega) (by omega) b1 b2 b3 b4 HY
        rw [show m + (240 - m) = 240 from by omega] at this
        exact this
      · exact yk_vert hs (br_f (by decide) (yk_vert ht (br_f (by decide) (br_f (cr_ne hs ht hne) (yB (hall hF))))))
    · refine br_t ((cz_lt0 (ck_Si (by omega))).mpr hneg) ?_
      exact yk_vert hs (br_f (by decide) (yk_vert ht (br_f (by decide) (br_f (cr_ne hs ht hne) (yB hall)))))
  · exact bX _ _ (br_t rfl (bY _ _ _ ⟨rfl, R0⟩))
