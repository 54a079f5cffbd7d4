theorem yk_leastA {post : Int32 → SY → Prop} {c a m : Nat} {p q l h : Nat → Nat} {a1 a2 a3 a4 : Nat → Int32} (H : ck_H 13 c p q l h a1 a2 a3 a4) (ha : a < c) (hm : m ≤ h a) (hW : ck_W p q (ck_u l a m) (ck_u h a m) c = 0) (hn : ∀ y, l a ≤ y → y < m → ck_W p q (ck_u l a y) (ck_u h a y) c ≠ 0) (hp : post (nI m) (nI c, a1, a2, a3, a4)) : ∀ d x n : Nat, x + d = m → l a ≤ x → d < n → wY_least_18 post (nI a) n (nI x) (nI c) a1 a2 a3 a4 := by
  have hc := H.1
  obtain ⟨_, _, vl, vh, _, _, e3, e4⟩ := H.2 a ha
  have hin : vp_in (nI a) 13 := vp_in_nI (by omega) (by omega)
  have hcl : (nI a).toNatClampNeg = a := nI_clamp (by omega)
  intro d
  induction d with
  | zero =>
    intro x n e hx hn'
    obtain ⟨k, rfl, hk⟩ := ck_fu hn'
    cases e
    refine ⟨hin, br_f ?_ (yk_allows H ha (by omega) (fun _ => br_f (by decide) hp) (fun z => absurd hW z))⟩
    rw [hcl, e4]; exact nI_nlt hm (by omega)
  | succ d ih =>
    intro x n e hx hn'
    obtain ⟨k, rfl, hk⟩ := ck_fu hn'
    refine ⟨hin, br_f ?_ (yk_allows H ha (by omega) (fun z => absurd z (hn x hx (by omega))) (fun _ => br_t rfl (nm_r (nI_1 x) (ih (x + 1) k (by omega) (by omega) (by omega)))))⟩
    rw [hcl, e4]; exact nI_nlt (by omega) (by omega)
theorem yk_leastB {post : Int32 → SY → Prop} {c a : Nat} {p q l h : Nat → Nat} {a1 a2 a3 a4 : Nat → Int32} (H : ck_H 13 c p q l h a1 a2 a3 a4) (ha : a < c) (hn : ∀ y, l a ≤ y → y ≤ h a → ck_W p q (ck_u l a y) (ck_u h a y) c ≠ 0) (hp : post (-5) (nI c, a1, a2, a3, a4)) : ∀ d x n : Nat, x + d = h a + 1 → l a ≤ x → d < n → wY_least_18 post (nI a) n (nI x) (nI c) a1 a2 a3 a4 := by
  have hc := H.1
  obtain ⟨_, _, vl, vh, _, _, e3, e4⟩ := H.2 a ha
  have hin : vp_in (nI a) 13 := vp_in_nI (by omega) (by omega)
  have hcl : (nI a).toNatClampNeg = a := nI_clamp (by omega)
  intro d
  induction d with
  | zero =>
    intro x n e hx hn'
    obtain ⟨k, rfl, hk⟩ := ck_fu hn'
    refine ⟨hin, br_t ?_ hp⟩
    rw [hcl, e4]; exact nI_lt (by omega) (by omega)
  | succ d ih =>
    intro x n e hx hn'
    obtain ⟨k, rfl, hk⟩ := ck_fu hn'
    refine ⟨hin, br_f ?_ (yk_allows H ha (by omega) (fun z => absurd z (hn x hx (by omega))) (fun _ => br_t rfl (nm_r (nI_1 x) (ih (x + 1) k (by omega) (by omega) (by omega)))))⟩
    rw [hcl, e4]; exact nI_nlt (by omega) (by omega)
theorem yk_mostA {post : Int32 → SY → Prop} {c a m : Nat} {p q l h : Nat → Nat} {a1 a2 a3 a4 : Nat → Int32} (H : ck_H 13 c p q l h a1 a2 a3 a4) (ha : a < c) (hm : l a ≤ m) (hW : ck_W p q (ck_u l a m) (ck_u h a m) c = 0) (hn : ∀ y, m < y → y ≤ h a → ck_W p q (ck_u l a y) (ck_u h a y) c ≠ 0) (hp : post (nI m) (nI c, a1, a2, a3, a4)) : ∀ d n : Nat, m + d ≤ h a → d < n → wY_most_18 post (nI a) n (nI (m + d)) (nI c) a1 a2 a3 a4 := by
  have hc := H.1
  obtain ⟨_, _, vl, vh, _, _, e3, e4⟩ := H.2 a ha
  have hin : vp_in (nI a) 13 := vp_in_nI (by omega) (by omega)
  have hcl : (nI a).toNatClampNeg = a := nI_clamp (by omega)
  intro d
  induction d with
  | zero =>
    intro n hx hn'
    obtain ⟨k, rfl, hk⟩ := ck_fu hn'
    refine ⟨hin, br_f ?_ (yk_allows H ha (by omega) (fun _ => br_f (by decide) hp) (fun z => absurd hW z))⟩
    rw [hcl, e3]; exact nI_nlt hm (by omega)
  | succ d ih =>
    intro n hx hn'
    obtain ⟨k, rfl, hk⟩ := ck_fu hn'
    refine ⟨hin, br_f ?_ (yk_allows H ha (by omega) (fun z => absurd z (hn _ (by omega) hx)) (fun _ => br_t rfl (nm_r (pk_m1 (m + d)) (ih k (by omega) (by omega)))))⟩
    rw [hcl, e3]; exact nI_nlt (by omega) (by omega)
theorem yk_mostB {post : Int32 → SY → Prop} {c a : Nat} {p q l h : Nat → Nat} {a1 a2 a3 a4 : Nat → Int32} (H : ck_H 13 c p q l h a1 a2 a3 a4) (ha : a < c) (hn : ∀ y, l a ≤ y → y ≤ h a → ck_W p q (ck_u l a y) (ck_u h a y) c ≠ 0) (hp : post (-5) (nI c, a1, a2, a3, a4)) : ∀ d n : Nat, l a + d ≤ h a + 1 → d < n → wY_most_18 post (nI a) n (nI (l a + d) + (-1)) (nI c) a1 a2 a3 a4 := by
  have hc := H.1
  obtain ⟨_, _, vl, vh, _, _, e3, e4⟩ := H.2 a ha
  have hin : vp_in (nI a) 13 := vp_in_nI (by omega) (by omega)
  have hcl : (nI a).toNatClampNeg = a := nI_clamp (by omega)
  intro d
  induction d with
  | zero =>
    intro n hx hn'
    obtain ⟨k, rfl, hk⟩ := ck_fu hn'
    refine ⟨hin, br_t ?_ hp⟩
    rw [hcl, e3, Nat.add_zero, show (-1 : Int32) = cz_I (-1) from by decide, cz_n, cz_add]
    exact (cz_lt (ck_Si (by omega)) (ck_Si (by omega))).mpr (by omega)
  | succ d ih =>
    intro n hx hn'
    obtain ⟨k, rfl, hk⟩ := ck_fu hn'
    rw [show l a + (d + 1) = l a + d + 1 from rfl, pk_m1]
    refine ⟨hin, br_f ?_ (yk_allows H ha (by omega) (fun z => absurd z (hn _ (by omega) (by omega))) (fun _ => br_t rfl (nm_e (ih k (by omega) (by omega)))))⟩
    rw [hcl, e3]; exact nI_nlt (by omega) (by omega)
theorem yk_place {post : SY → Prop} {c : Nat} {x0 x1 x2 x3 : Int32} {a1 a2 a3 a4 : Nat → Int32} (hc : c < 13) (hp : post (nI c, upd a1 c x0, upd a2 c x1, upd a3 c x2, upd a4 c x3)) : wpY_place post (nI c, a1, a2, a3, a4) x0 x1 x2 x3 := by
  have hin : vp_in (nI c) 13 := vp_in_nI (by omega) (by omega)
  unfold wpY_place
  dsimp only
  rw [nI_clamp (by omega)]
  exact ⟨hin, nm_e ⟨hin, nm_e ⟨hin, nm_e ⟨hin, nm_e hp⟩⟩⟩⟩
theorem ck_Hkeep {N c : Nat} {x1 x2 x3 x4 : Int32} {p q l h : Nat → Nat} {a1 a2 a3 a4 : Nat → Int32} (H : ck_H N c p q l h a1 a2 a3 a4) : ck_H N c p q l h (upd a1 c x1) (upd a2 c x2) (upd a3 c x3) (upd a4 c x4) := by
  refine ⟨H.1, fun j hj => ?_⟩
  have e : j ≠ c := by omega
  rw [pk_un e, pk_un e, pk_un e, pk_un e]
  exact H.2 j hj
/-- one turn of through's loop -/
theorem yk_thr1 {post : Int32 → SY → Prop} {c s t x n : Nat} {p q l h : Nat → Nat} {a1 a2 a3 a4 : Nat → Int32} (H : ck_H 12 c p q l h a1 a2 a3 a4) (vs : s < 6) (vt : t < 6) (hx : x ≤ 240)
    (h1 : ck_T p q l h c s t x → ∀ b1 b2 b3 b4, ck_H 12 c p q l h b1 b2 b3 b4 → post (nI x) (nI c, b1, b2, b3, b4))
    (h2 : ¬ ck_T p q l h c s t x → ∀ b1 b2 b3 b4, ck_H 12 c p q l h b1 b2 b3 b4 → wY_through_27 post (nI s) (nI t) n (nI x + (-1)) (nI c) b1 b2 b3 b4) :
    wY_through_27 post (nI s) (nI t) (n + 1) (nI x) (nI c) a1 a2 a3 a4 := by
  have hc := H.1
  have H' := ck_Hput (x := x) H vt vs hx
  refine br_f (nI_pos (by omega)) (yk_place (by omega) ?_)
  dsimp only
  rw [nI_1 c]
  refine yk_worst H' (cz_b (cz_eq0 (ck_WS H' (by omega))) (fun z => ?_) (fun z => ?_))
  · exact h1 z _ _ _ _ (ck_Hkeep H)
  · exact nm_e (h2 z _ _ _ _ (ck_Hkeep H))
theorem yk_thrA {post : Int32 → SY → Prop} {c s t m : Nat} {p q l h : Nat → Nat} (vs : s < 6) (vt : t < 6) (hT : ck_T p q l h c s t m) (hn : ∀ y, m < y → ¬ ck_T p q l h c s t y) (hp : ∀ b1 b2 b3 b4, ck_H 12 c p q l h b1 b2 b3 b4 → post (nI m) (nI c, b1, b2, b3, b4)) : ∀ d n : Nat, m + d ≤ 240 → d < n → ∀ a1 a2 a3 a4, ck_H 12 c p q l h a1 a2 a3 a4 → wY_through_27 post (nI s) (nI t) n (nI (m + d)) (nI c) a1 a2 a3 a4 := by
  intro d
  induction d with
  | zero =>
    intro n hx hn' a1 a2 a3 a4 H
    obtain ⟨k, rfl, hk⟩ := ck_fu hn'
    exact yk_thr1 H vs vt hx (fun _ => hp) (fun z => absurd hT z)
  | succ d ih =>
    intro n hx hn' a1 a2 a3 a4 H
    obtain ⟨k, rfl, hk⟩ := ck_fu hn'
    refine yk_thr1 H vs vt hx (fun z => absurd z (hn _ (by omega))) (fun _ b1 b2 b3 b4 H2 => ?_)
    rw [show m + (d + 1) = m + d + 1 from rfl, pk_m1]
    exact ih k (by omega) (by omega) b1 b2 b3 b4 H2
theorem yk_thrB {post : Int32 → SY → Prop} {c s t : Nat} {p q l h : Nat → Nat} (vs : s < 6) (vt : t < 6) (hn : ∀ y, ¬ ck_T p q l h c s t y) (hp : ∀ b1 b2 b3 b4, ck_H 12 c p q l h b1 b2 b3 b4 → post (-5) (nI c, b1, b2, b3, b4)) : ∀ x n : Nat, x ≤ 241 → x < n → ∀ a1 a2 a3 a4, ck_H 12 c p q l h a1 a2 a3 a4 → wY_through_27 post (nI s) (nI t) n (nI x + (-1)) (nI c) a1 a2 a3 a4 := by
  intro x
  induction x with
  | zero =>
    intro n hx hn' a1 a2 a3 a4 H
    obtain ⟨k, rfl, hk⟩ := ck_fu hn'
    exact br_t (by decide) (hp a1 a2 a3 a4 H)
  | succ x ih =>
    intro n hx hn' a1 a2 a3 a4 H
    obtain ⟨k, rfl, hk⟩ := ck_fu hn'
    rw [pk_m1]
    exact yk_thr1 H vs vt (by omega) (fun z => absurd z (hn _)) (fun _ b1 b2 b3 b4 H2 => ih k (by omega) (by omega) b1 b2 b3 b4 H2)
