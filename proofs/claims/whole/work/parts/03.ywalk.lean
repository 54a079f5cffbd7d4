/-! the reference -/
theorem yk_73 {post : Int32 → Prop} {J5 : Int32 → Int32 → Prop} {x1 x2 f : Int32} {c i : Nat} {p q l h : Nat → Nat} {a1 a2 a3 a4 : Nat → Int32} (H : ck_H 13 c p q l h a1 a2 a3 a4) (hi : i < c) (b1 b2 : Bool) (z : Int) (hJ : J5 (cz_I (z - (if b1 && !b2 then (h i : Int) else 0))) (nI (i + 1))) : wY_lackOf_73 post J5 x1 x2 (cz_I z) (nI i) (ck_B b1) (ck_B b2) f a1 a2 a3 a4 := by
  have hc := H.1
  obtain ⟨_, _, _, _, _, _, _, e4⟩ := H.2 i hi
  unfold wY_lackOf_73
  cases b1
  · refine br_t rfl (nm_r (nI_1 i) ?_)
    simpa using hJ
  · refine br_f (by decide) ?_
    cases b2
    · refine br_t rfl ⟨vp_in_nI (by omega) (by omega), nm_r (e' := cz_I (z - (h i : Int))) ?_ (nm_r (nI_1 i) ?_)⟩
      · rw [nI_clamp (by omega), e4, cz_n, cz_sub]
      · simpa using hJ
    · refine br_f (by decide) (nm_r (nI_1 i) ?_)
      simpa using hJ
theorem yk_51 {post : Int32 → Prop} {J5 : Int32 → Int32 → Prop} {x1 x2 f : Int32} {c i : Nat} {p q l h : Nat → Nat} {a1 a2 a3 a4 : Nat → Int32} (H : ck_H 13 c p q l h a1 a2 a3 a4) (hi : i < c) (b1 b2 : Bool) (z : Int) (hJ : J5 (cz_I (z + (if b2 && !b1 then (l i : Int) else 0) - (if b1 && !b2 then (h i : Int) else 0))) (nI (i + 1))) : wY_lackOf_51 post J5 x1 x2 (cz_I z) (nI i) (ck_B b1) (ck_B b2) f a1 a2 a3 a4 := by
  have hc := H.1
  obtain ⟨_, _, _, _, _, _, e3, _⟩ := H.2 i hi
  unfold wY_lackOf_51
  cases b2
  · refine br_t rfl (yk_73 H hi b1 false z ?_)
    simpa using hJ
  · refine br_f (by decide) ?_
    cases b1
    · refine br_t rfl ⟨vp_in_nI (by omega) (by omega), nm_r (e' := cz_I (z + (l i : Int))) ?_ (yk_73 H hi false true _ ?_)⟩
      · rw [nI_clamp (by omega), e3, cz_n, cz_add]
      · simpa using hJ
    · refine br_f (by decide) (yk_73 H hi true true z ?_)
      simpa using hJ
theorem yk_30 {post : Int32 → Prop} {J5 : Int32 → Int32 → Prop} {x2 f : Int32} {c i s : Nat} {p q l h : Nat → Nat} {a1 a2 a3 a4 : Nat → Int32} (H : ck_H 13 c p q l h a1 a2 a3 a4) (hs : s < 64) (hi : i < c) (b1 : Bool) (z : Int) (hJ : J5 (cz_I (z + (if s.testBit (q i) && !b1 then (l i : Int) else 0) - (if b1 && !s.testBit (q i) then (h i : Int) else 0))) (nI (i + 1))) : wY_lackOf_30 post J5 (nI s) x2 (cz_I z) (nI i) (ck_B b1) f a1 a2 a3 a4 := by
  have hc := H.1
  obtain ⟨vp, vq, _, _, e1, e2, _, _⟩ := H.2 i hi
  unfold wY_lackOf_30
  refine ⟨vp_in_nI (by omega) (by omega), ?_⟩
  rw [nI_clamp (by omega), e2, ck_bit s hs _ vq]
  have h1 := yk_51 (post := post) (x1 := nI s) (x2 := x2) (f := f) H hi b1 (s.testBit (q i)) z hJ
  cases hb : s.testBit (q i)
  · rw [hb] at h1; exact br_t rfl h1
  · rw [hb] at h1; exact br_f (by decide) h1
theorem yk_lackL {post : Int32 → Prop} {f : Int32} {c s : Nat} {p q l h : Nat → Nat} {a1 a2 a3 a4 : Nat → Int32} (H : ck_H 13 c p q l h a1 a2 a3 a4) (hs : s < 64) (hp : post (cz_I (ck_L p q l h s c))) : ∀ d i n : Nat, i + d = c → d < n → wY_lackOf_5 post (nI s) (nI c) f a1 a2 a3 a4 n (cz_I (ck_L p q l h s i)) (nI i) := by
  have hc := H.1
  intro d
  induction d with
  | zero =>
    intro i n e hn
    obtain ⟨m, rfl, hm⟩ := ck_fu hn
    cases e
    exact br_t (nI_le (Nat.le_refl _) (by omega)) hp
  | succ d ih =>
    intro i n e hn
    obtain ⟨m, rfl, hm⟩ := ck_fu hn
    have hi : i < c := by omega
    obtain ⟨vp, vq, _, _, e1, e2, e3, e4⟩ := H.2 i hi
    have hin : vp_in (nI i) 13 := vp_in_nI (by omega) (by omega)
    have h1 := ih (i + 1) m (by omega) (by omega)
    refine br_f (nI_ge hi (by omega)) ⟨hin, ?_⟩
    rw [nI_clamp (by omega), e1, ck_bit s hs _ vp]
    have h2 := yk_30 (post := post) (J5 := wY_lackOf_5 post (nI s) (nI c) f a1 a2 a3 a4 m) (x2 := nI c) (f := f) H hs hi (s.testBit (p i)) (ck_L p q l h s i) (by
      rw [show ck_L p q l h s i + (if s.testBit (q i) && !s.testBit (p i) then (l i : Int) else 0) - (if s.testBit (p i) && !s.testBit (q i) then (h i : Int) else 0) = ck_L p q l h s (i + 1) from Int.add_sub_assoc _ _ _]
      exact h1)
    cases hb : s.testBit (p i)
    · rw [hb] at h2; exact br_t rfl h2
    · rw [hb] at h2; exact br_f (by decide) h2
theorem yk_lackOf {post : Int32 → Prop} {f : Int32} {c s : Nat} {p q l h : Nat → Nat} {a1 a2 a3 a4 : Nat → Int32} (H : ck_H 13 c p q l h a1 a2 a3 a4) (hs : s < 64) (hp : post (cz_I (ck_L p q l h s c))) : wpY_lackOf post (f, a1, a2, a3, a4) (nI s) (nI c) := by
  have h1 := yk_lackL (f := f) H hs hp c 0 (c + 1) (by omega) (by omega)
  rw [nI_0, show cz_I (ck_L p q l h s 0) = 0 from cz_0] at h1
  exact ⟨c + 1, h1⟩
theorem yk_worstL {post : Int32 → Prop} {f : Int32} {c : Nat} {p q l h : Nat → Nat} {a1 a2 a3 a4 : Nat → Int32} (H : ck_H 13 c p q l h a1 a2 a3 a4) (hp : post (cz_I (ck_W p q l h c))) : ∀ d i n : Nat, i + d = 64 → d < n → wY_worst_4 post (nI c) f a1 a2 a3 a4 n (cz_I (ck_mx (fun _ => true) (fun s => ck_L p q l h s c) 0 i)) (nI i) := by
  intro d
  induction d with
  | zero =>
    intro i n e hn
    obtain ⟨m, rfl, hm⟩ := ck_fu hn
    have e' : i = 64 := by omega
    subst e'
    exact br_t (nI_le (a := 64) (Nat.le_refl _) (by omega)) hp
  | succ d ih =>
    intro i n e hn
    obtain ⟨m, rfl, hm⟩ := ck_fu hn
    have h1 := ih (i + 1) m (by omega) (by omega)
    refine br_f (nI_ge (b := 64) (by omega) (by omega)) (yk_lackOf H (by omega) ?_)
    refine cz_b (cz_le (ck_Si ?_) (ck_Si ?_)) (fun hf => ?_) (fun hf => ?_)
    · have := ck_LS H (by omega) i; omega
    · have := ck_mxB (g := fun _ => true) (f := fun s => ck_L p q l h s c) (a0 := 0) (b := 3120) i (by omega) (fun s => ck_LS H (by omega) s); omega
    · rw [ck_mx1 (g := fun _ => true) rfl hf] at h1
      exact nm_r (nI_1 i) h1
    · rw [ck_mx2 (g := fun _ => true) rfl hf] at h1
      exact nm_r (nI_1 i) h1
theorem yk_worst {post : Int32 → Prop} {f : Int32} {c : Nat} {p q l h : Nat → Nat} {a1 a2 a3 a4 : Nat → Int32} (H : ck_H 13 c p q l h a1 a2 a3 a4) (hp : post (cz_I (ck_W p q l h c))) : wpY_worst post (f, a1, a2, a3, a4) (nI c) := by
  have h1 := yk_worstL (f := f) H hp 64 0 65 (by omega) (by omega)
  rw [nI_0, show cz_I (ck_mx (fun _ => true) (fun s => ck_L p q l h s c) 0 0) = 0 from cz_0] at h1
  exact ⟨65, h1⟩
theorem yk_lsL {post : Int32 → Prop} {c : Nat} {p q l h : Nat → Nat} {a1 a2 a3 a4 : Nat → Int32} (H : ck_H 13 c p q l h a1 a2 a3 a4) (hp : post (ck_cm (fun s => ck_L p q l h s c) (ck_W p q l h c) 64)) : ∀ d i n : Nat, i + d = 64 → d < n → wY_lackingSet_14 post (cz_I (ck_W p q l h c)) (nI c) a1 a2 a3 a4 n (ck_cm (fun s => ck_L p q l h s c) (ck_W p q l h c) i) (nI i) := by
  intro d
  induction d with
  | zero =>
    intro i n e hn
    obtain ⟨m, rfl, hm⟩ := ck_fu hn
    have e' : i = 64 := by omega
    subst e'
    exact br_t (nI_le (a := 64) (Nat.le_refl _) (by omega)) hp
  | succ d ih =>
    intro i n e hn
    obtain ⟨m, rfl, hm⟩ := ck_fu hn
    have h1 := ih (i + 1) m (by omega) (by omega)
    refine br_f (nI_ge (b := 64) (by omega) (by omega)) (yk_lackOf H (by omega) ?_)
    refine cz_b (cz_eq (ck_Si ?_) (ck_WS H (by omega))) (fun hf => ?_) (fun hf => ?_)
    · have := ck_LS H (by omega) i; omega
    · rw [ck_cm1 (f := fun s => ck_L p q l h s c) hf] at h1
      exact nm_e (nm_r (nI_1 i) h1)
    · rw [ck_cm2 (f := fun s => ck_L p q l h s c) hf] at h1
      exact nm_r (nI_1 i) h1
/-! one arc fixed, and put back -/
theorem ck_back (a : Nat → Int32) (k : Nat) (x : Int32) : upd (upd a k x) k (a k) = a := by
  funext j
  by_cases e : j = k
  · rw [e, pk_us]
  · rw [pk_un e, pk_un e]
theorem ck_twice (a : Nat → Int32) (k : Nat) (x y : Int32) : upd (upd a k x) k y = upd a k y := by
  funext j
  by_cases e : j = k
  · rw [e, pk_us, pk_us]
  · rw [pk_un e, pk_un e, pk_un e]
theorem ck_Hfix {N c a x : Nat} {p q l h : Nat → Nat} {a1 a2 a3 a4 : Nat → Int32} (H : ck_H N c p q l h a1 a2 a3 a4) (hx : x ≤ 240) : ck_H N c p q (ck_u l a x) (ck_u h a x) a1 a2 (upd a3 a (nI x)) (upd a4 a (nI x)) := by
  refine ⟨H.1, fun j hj => ?_⟩
  obtain ⟨h1, h2, h3, h4, e1, e2, e3, e4⟩ := H.2 j hj
  by_cases e : j = a
  · subst e
    rw [ck_us, ck_us, pk_us, pk_us]
    exact ⟨h1, h2, hx, hx, e1, e2, rfl, rfl⟩
  · rw [ck_un _ _ e, ck_un _ _ e, pk_un e, pk_un e]
    exact ⟨h1, h2, h3, h4, e1, e2, e3, e4⟩
theorem ck_Hput {N c a b x : Nat} {p q l h : Nat → Nat} {a1 a2 a3 a4 : Nat → Int32} (H : ck_H N c p q l h a1 a2 a3 a4) (ha : a < 6) (hb : b < 6) (hx : x ≤ 240) : ck_H (N + 1) (c + 1) (ck_u p c a) (ck_u q c b) (ck_u l c x) (ck_u h c x) (upd a1 c (nI a)) (upd a2 c (nI b)) (upd a3 c (nI x)) (upd a4 c (nI x)) := by
  refine ⟨by have := H.1; omega, fun j hj => ?_⟩
  by_cases e : j = c
  · subst e
    rw [ck_us, ck_us, ck_us, ck_us, pk_us, pk_us, pk_us, pk_us]
    exact ⟨ha, hb, hx, hx, rfl, rfl, rfl, rfl⟩
  · obtain ⟨h1, h2, h3, h4, e1, e2, e3, e4⟩ := H.2 j (by omega)
    rw [ck_un _ _ e, ck_un _ _ e, ck_un _ _ e, ck_un _ _ e, pk_un e, pk_un e, pk_un e, pk_un e]
    exact ⟨h1, h2, h3, h4, e1, e2, e3, e4⟩
theorem yk_allows {post : Int32 → SY → Prop} {c a x : Nat} {p q l h : Nat → Nat} {a1 a2 a3 a4 : Nat → Int32} (H : ck_H 13 c p q l h a1 a2 a3 a4) (ha : a < c) (hx : x ≤ 240) (h1 : ck_W p q (ck_u l a x) (ck_u h a x) c = 0 → post 1 (nI c, a1, a2, a3, a4)) (h0 : ¬ ck_W p q (ck_u l a x) (ck_u h a x) c = 0 → post 0 (nI c, a1, a2, a3, a4)) : wpY_allows post (nI c, a1, a2, a3, a4) (nI a) (nI x) := by
  have hc := H.1
  have hin : vp_in (nI a) 13 := vp_in_nI (by omega) (by omega)
  have hcl : (nI a).toNatClampNeg = a := nI_clamp (by omega)
  have H' := ck_Hfix (a := a) H hx
  unfold wpY_allows
  dsimp only
  rw [hcl]
  refine ⟨hin, nm_e ⟨hin, nm_e ⟨hin, nm_e ⟨hin, nm_e (yk_worst H' (cz_b (cz_eq0 (ck_WS H' (by omega))) (fun hw => ?_) (fun hw => ?_)))⟩⟩⟩⟩
  · unfold wY_allows_45
    rw [hcl]
    refine ⟨hin, nm_r (ck_back _ _ _) ⟨hin, nm_r (ck_back _ _ _) ⟨by decide, h1 hw⟩⟩⟩
  · unfold wY_allows_45
    rw [hcl]
    refine ⟨hin, nm_r (ck_back _ _ _) ⟨hin, nm_r (ck_back _ _ _) ⟨by decide, h0 hw⟩⟩⟩
