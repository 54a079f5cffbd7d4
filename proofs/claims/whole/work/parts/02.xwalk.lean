/-- arrays that show c arcs -/
def ck_H (N c : Nat) (p q l h : Nat → Nat) (a1 a2 a3 a4 : Nat → Int32) : Prop := c ≤ N ∧ ∀ j, j < c → p j < 6 ∧ q j < 6 ∧ l j ≤ 240 ∧ h j ≤ 240 ∧ a1 j = nI (p j) ∧ a2 j = nI (q j) ∧ a3 j = nI (l j) ∧ a4 j = nI (h j)
theorem ck_LS {N c : Nat} {p q l h : Nat → Nat} {a1 a2 a3 a4 : Nat → Int32} (H : ck_H N c p q l h a1 a2 a3 a4) (hN : N ≤ 13) (s : Nat) : -3120 ≤ ck_L p q l h s c ∧ ck_L p q l h s c ≤ 3120 := by
  have h1 := ck_bd p q l h s 240 (by decide) c (fun j hj => by have := (H.2 j hj).2.2.1; have := (H.2 j hj).2.2.2.1; omega)
  have := H.1
  omega
theorem ck_Si {a : Int} (h : -10000 ≤ a ∧ a ≤ 10000) : cz_S a := ⟨by omega, by omega⟩
theorem ck_mxB {g : Nat → Bool} {f : Nat → Int} {a0 b : Int} (n : Nat) (h0 : -b ≤ a0 ∧ a0 ≤ b) (hf : ∀ i, -b ≤ f i ∧ f i ≤ b) : -b ≤ ck_mx g f a0 n ∧ ck_mx g f a0 n ≤ b := by
  rcases (ck_mx_p g f a0 n).2.2 with e | ⟨i, _, _, e⟩
  · rw [e]; exact h0
  · rw [e]; exact hf i
theorem ck_mnB {g : Nat → Bool} {f : Nat → Int} {a0 b : Int} (n : Nat) (h0 : -b ≤ a0 ∧ a0 ≤ b) (hf : ∀ i, -b ≤ f i ∧ f i ≤ b) : -b ≤ ck_mn g f a0 n ∧ ck_mn g f a0 n ≤ b := by
  rcases (ck_mn_p g f a0 n).2.2 with e | ⟨i, _, _, e⟩
  · rw [e]; exact h0
  · rw [e]; exact hf i
theorem ck_mx1 {g : Nat → Bool} {f : Nat → Int} {a0 : Int} {n : Nat} (hg : g n = true) (hf : f n ≤ ck_mx g f a0 n) : ck_mx g f a0 (n + 1) = ck_mx g f a0 n := by
  show (if g n then (if f n ≤ ck_mx g f a0 n then ck_mx g f a0 n else f n) else ck_mx g f a0 n) = _
  rw [if_pos hg, if_pos hf]
theorem ck_mx2 {g : Nat → Bool} {f : Nat → Int} {a0 : Int} {n : Nat} (hg : g n = true) (hf : ¬ f n ≤ ck_mx g f a0 n) : ck_mx g f a0 (n + 1) = f n := by
  show (if g n then (if f n ≤ ck_mx g f a0 n then ck_mx g f a0 n else f n) else ck_mx g f a0 n) = _
  rw [if_pos hg, if_neg hf]
theorem ck_mx3 {g : Nat → Bool} {f : Nat → Int} {a0 : Int} {n : Nat} (hg : g n = false) : ck_mx g f a0 (n + 1) = ck_mx g f a0 n := by
  show (if g n then (if f n ≤ ck_mx g f a0 n then ck_mx g f a0 n else f n) else ck_mx g f a0 n) = _
  rw [if_neg (by rw [hg]; decide)]
theorem ck_mn1 {g : Nat → Bool} {f : Nat → Int} {a0 : Int} {n : Nat} (hg : g n = true) (hf : ck_mn g f a0 n ≤ f n) : ck_mn g f a0 (n + 1) = ck_mn g f a0 n := by
  show (if g n then (if ck_mn g f a0 n ≤ f n then ck_mn g f a0 n else f n) else ck_mn g f a0 n) = _
  rw [if_pos hg, if_pos hf]
theorem ck_mn2 {g : Nat → Bool} {f : Nat → Int} {a0 : Int} {n : Nat} (hg : g n = true) (hf : ¬ ck_mn g f a0 n ≤ f n) : ck_mn g f a0 (n + 1) = f n := by
  show (if g n then (if ck_mn g f a0 n ≤ f n then ck_mn g f a0 n else f n) else ck_mn g f a0 n) = _
  rw [if_pos hg, if_neg hf]
theorem ck_mn3 {g : Nat → Bool} {f : Nat → Int} {a0 : Int} {n : Nat} (hg : g n = false) : ck_mn g f a0 (n + 1) = ck_mn g f a0 n := by
  show (if g n then (if ck_mn g f a0 n ≤ f n then ck_mn g f a0 n else f n) else ck_mn g f a0 n) = _
  rw [if_neg (by rw [hg]; decide)]
theorem ck_fu {n d : Nat} (h : d < n) : ∃ m, n = m + 1 ∧ d ≤ m := ⟨n - 1, by omega, by omega⟩
/-! the class -/
theorem xk_contains {post : Int32 → Prop} {u : SX} {s v : Nat} (hs : s < 64) (hv : v < 6) (h : post (ck_B (s.testBit v))) : wpX_contains post u (nI s) (nI v) := by
  obtain ⟨c, a1, a2, a3, a4⟩ := u
  unfold wpX_contains
  dsimp only
  rw [ck_bit s hs v hv]
  cases hb : s.testBit v
  · rw [hb] at h; exact br_f (by decide) h
  · rw [hb] at h; exact br_t rfl h
theorem xk_crosses {post : Int32 → Prop} {u : SX} {s a b : Nat} (hs : s < 64) (ha : a < 6) (hb : b < 6) (h : post (ck_B (ck_x s a b))) : wpX_crosses post u (nI s) (nI a) (nI b) := by
  obtain ⟨c, a1, a2, a3, a4⟩ := u
  unfold wpX_crosses
  dsimp only
  refine xk_contains hs ha ?_
  cases h1 : s.testBit a
  · rw [show ck_x s a b = false from by simp [ck_x, h1]] at h
    exact br_t rfl h
  · refine br_f (by decide) (xk_contains hs hb ?_)
    cases h2 : s.testBit b
    · rw [show ck_x s a b = true from by simp [ck_x, h1, h2]] at h
      exact br_t rfl h
    · rw [show ck_x s a b = false from by simp [ck_x, h1, h2]] at h
      exact br_f (by decide) h
theorem xk_41 {post : Int32 → Prop} {J4 : Int32 → Int32 → Prop} {c s i : Nat} {p q l h : Nat → Nat} {a1 a2 a3 a4 : Nat → Int32} (H : ck_H 12 c p q l h a1 a2 a3 a4) (hs : s < 64) (hi : i < c) (z : Int) (hJ : J4 (cz_I (z - (if ck_x s (p i) (q i) then (h i : Int) else 0))) (nI (i + 1))) : wX_lackOf_41 post J4 (nI s) (cz_I z) (nI i) (nI c) a1 a2 a3 a4 := by
  have hc := H.1
  obtain ⟨hp, hq, _, _, e1, e2, e3, e4⟩ := H.2 i hi
  have hin : vp_in (nI i) 12 := vp_in_nI (by omega) (by omega)
  unfold wX_lackOf_41
  refine ⟨hin, hin, ?_⟩
  rw [nI_clamp (by omega), e1, e2]
  refine xk_crosses hs hp hq ?_
  cases e : ck_x s (p i) (q i)
  · rw [e] at hJ
    refine br_t rfl (nm_r (nI_1 i) ?_)
    simpa using hJ
  · rw [e] at hJ
    refine br_f (by decide) ⟨hin, nm_r (e' := cz_I (z - (h i : Int))) ?_ (nm_r (nI_1 i) ?_)⟩
    · rw [e4, cz_n, cz_sub]
    · simpa using hJ
theorem xk_lackL {post : Int32 → Prop} {c s : Nat} {p q l h : Nat → Nat} {a1 a2 a3 a4 : Nat → Int32} (H : ck_H 12 c p q l h a1 a2 a3 a4) (hs : s < 64) (hp : post (cz_I (ck_L p q l h s c))) : ∀ d i n : Nat, i + d = c → d < n → wX_lackOf_4 post (nI s) (nI c) a1 a2 a3 a4 n (cz_I (ck_L p q l h s i)) (nI i) := by
  have hc := H.1
  intro d
  induction d with
  | zero =>
    intro i n e hn
    obtain ⟨m, rfl, hm⟩ := ck_fu hn
    cases e
    exact br_t (nI_le (Nat.le_refl _) (by omega)) hp
  | succ d ih =>
    intro i n e hn
    obtain ⟨m, rfl, hm⟩ := ck_fu hn
    have hi : i < c := by omega
    obtain ⟨vp, vq, _, _, e1, e2, e3, e4⟩ := H.2 i hi
    have hin : vp_in (nI i) 12 := vp_in_nI (by omega) (by omega)
    have h1 := ih (i + 1) m (by omega) (by omega)
    refine br_f (nI_ge hi (by omega)) ⟨hin, hin, ?_⟩
    rw [nI_clamp (by omega), e1, e2]
    refine xk_crosses hs vq vp ?_
    cases ex : ck_x s (q i) (p i)
    · refine br_t rfl (xk_41 H hs hi _ ?_)
      rw [show ck_L p q l h s i - (if ck_x s (p i) (q i) then (h i : Int) else 0) = ck_L p q l h s (i + 1) from by simp only [ck_L, ck_c, ex]; simp; omega]
      exact h1
    · refine br_f (by decide) ⟨hin, nm_r (e' := cz_I (ck_L p q l h s i + (l i : Int))) ?_ (xk_41 H hs hi _ ?_)⟩
      · rw [e3, cz_n, cz_add]
      · rw [show ck_L p q l h s i + (l i : Int) - (if ck_x s (p i) (q i) then (h i : Int) else 0) = ck_L p q l h s (i + 1) from by simp only [ck_L, ck_c, ex]; simp; omega]
        exact h1
theorem xk_lackOf {post : Int32 → Prop} {c s : Nat} {p q l h : Nat → Nat} {a1 a2 a3 a4 : Nat → Int32} (H : ck_H 12 c p q l h a1 a2 a3 a4) (hs : s < 64) (hp : post (cz_I (ck_L p q l h s c))) : wpX_lackOf post (nI c, a1, a2, a3, a4) (nI s) := by
  have h1 := xk_lackL H hs hp c 0 (c + 1) (by omega) (by omega)
  rw [nI_0, show cz_I (ck_L p q l h s 0) = 0 from cz_0] at h1
  exact ⟨c + 1, h1⟩
theorem xk_grL {post : Int32 → Prop} {c : Nat} {p q l h : Nat → Nat} {a1 a2 a3 a4 : Nat → Int32} (H : ck_H 12 c p q l h a1 a2 a3 a4) (hp : post (cz_I (ck_W p q l h c))) : ∀ d i n : Nat, i + d = 64 → d < n → wX_greatestLack_4 post (nI c) a1 a2 a3 a4 n (cz_I (ck_mx (fun _ => true) (fun s => ck_L p q l h s c) 0 i)) (nI i) := by
  intro d
  induction d with
  | zero =>
    intro i n e hn
    obtain ⟨m, rfl, hm⟩ := ck_fu hn
    have e' : i = 64 := by omega
    subst e'
    exact br_t (nI_le (a := 64) (Nat.le_refl _) (by omega)) hp
  | succ d ih =>
    intro i n e hn
    obtain ⟨m, rfl, hm⟩ := ck_fu hn
    have h1 := ih (i + 1) m (by omega) (by omega)
    refine br_f (nI_ge (b := 64) (by omega) (by omega)) (xk_lackOf H (by omega) ?_)
    refine cz_b (cz_le (ck_Si ?_) (ck_Si ?_)) (fun hf => ?_) (fun hf => ?_)
    · have := ck_LS H (by omega) i; omega
    · have := ck_mxB (g := fun _ => true) (f := fun s => ck_L p q l h s c) (a0 := 0) (b := 3120) i (by omega) (fun s => ck_LS H (by omega) s); omega
    · rw [ck_mx1 (g := fun _ => true) rfl hf] at h1
      exact nm_r (nI_1 i) h1
    · rw [ck_mx2 (g := fun _ => true) rfl hf] at h1
      exact nm_r (nI_1 i) h1
theorem xk_greatest {post : Int32 → Prop} {c : Nat} {p q l h : Nat → Nat} {a1 a2 a3 a4 : Nat → Int32} (H : ck_H 12 c p q l h a1 a2 a3 a4) (hp : post (cz_I (ck_W p q l h c))) : wpX_greatestLack post (nI c, a1, a2, a3, a4) := by
  have h1 := xk_grL H hp 64 0 65 (by omega) (by omega)
  rw [nI_0, show cz_I (ck_mx (fun _ => true) (fun s => ck_L p q l h s c) 0 0) = 0 from cz_0] at h1
  exact ⟨65, h1⟩
/-- the meet of the sets whose lack is m -/
def ck_cm (f : Nat → Int) (m : Int) : Nat → Int32
  | 0 => 63
  | n + 1 => if f n = m then ck_cm f m n &&& nI n else ck_cm f m n
theorem ck_cm1 {f : Nat → Int} {m : Int} {n : Nat} (h : f n = m) : ck_cm f m (n + 1) = ck_cm f m n &&& nI n := if_pos h
theorem ck_cm2 {f : Nat → Int} {m : Int} {n : Nat} (h : ¬ f n = m) : ck_cm f m (n + 1) = ck_cm f m n := if_neg h
theorem ck_WS {N c : Nat} {p q l h : Nat → Nat} {a1 a2 a3 a4 : Nat → Int32} (H : ck_H N c p q l h a1 a2 a3 a4) (hN : N ≤ 13) : cz_S (ck_W p q l h c) := by
  have := ck_mxB (g := fun _ => true) (f := fun s => ck_L p q l h s c) (a0 := 0) (b := 3120) 64 (by omega) (fun s => ck_LS H hN s)
  exact ck_Si (by unfold ck_W; omega)
theorem xk_lsL {post : Int32 → Prop} {c : Nat} {p q l h : Nat → Nat} {a1 a2 a3 a4 : Nat → Int32} (H : ck_H 12 c p q l h a1 a2 a3 a4) (hp : post (ck_cm (fun s => ck_L p q l h s c) (ck_W p q l h c) 64)) : ∀ d i n : Nat, i + d = 64 → d < n → wX_lackingSet_10 post (cz_I (ck_W p q l h c)) (nI c) a1 a2 a3 a4 n (ck_cm (fun s => ck_L p q l h s c) (ck_W p q l h c) i) (nI i) := by
  intro d
  induction d with
  | zero =>
    intro i n e hn
    obtain ⟨m, rfl, hm⟩ := ck_fu hn
    have e' : i = 64 := by omega
    subst e'
    exact br_t (nI_le (a := 64) (Nat.le_refl _) (by omega)) hp
  | succ d ih =>
    intro i n e hn
    obtain ⟨m, rfl, hm⟩ := ck_fu hn
    have h1 := ih (i + 1) m (by omega) (by omega)
    refine br_f (nI_ge (b := 64) (by omega) (by omega)) (xk_lackOf H (by omega) ?_)
    refine cz_b (cz_eq (ck_Si ?_) (ck_WS H (by omega))) (fun hf => ?_) (fun hf => ?_)
    · have := ck_LS H (by omega) i; omega
    · rw [ck_cm1 (f := fun s => ck_L p q l h s c) hf] at h1
      exact nm_e (nm_r (nI_1 i) h1)
    · rw [ck_cm2 (f := fun s => ck_L p q l h s c) hf] at h1
      exact nm_r (nI_1 i) h1
theorem xk_leastL {post : Int32 → Prop} {c a : Nat} {p q l h : Nat → Nat} {a1 a2 a3 a4 : Nat → Int32} (H : ck_H 12 c p q l h a1 a2 a3 a4) (ha : a < c) (hp : post (cz_I (ck_least p q l h c a 64))) : ∀ d i n : Nat, i + d = 64 → d < n → wX_least_46 post (nI a) (nI (p a)) (nI (q a)) (nI c) a1 a2 a3 a4 n (cz_I (ck_least p q l h c a i)) (nI i) := by
  have hc := H.1
  obtain ⟨vp, vq, vl, vh, e1, e2, e3, e4⟩ := H.2 a ha
  have hin : vp_in (nI a) 12 := vp_in_nI (by omega) (by omega)
  intro d
  induction d with
  | zero =>
    intro i n e hn
    obtain ⟨m, rfl, hm⟩ := ck_fu hn
    have e' : i = 64 := by omega
    subst e'
    exact br_t (nI_le (a := 64) (Nat.le_refl _) (by omega)) hp
  | succ d ih =>
    intro i n e hn
    obtain ⟨m, rfl, hm⟩ := ck_fu hn
    have h1 := ih (i + 1) m (by omega) (by omega)
    refine br_f (nI_ge (b := 64) (by omega) (by omega)) (xk_crosses (by omega) vp vq ?_)
    cases ex : ck_x i (p a) (q a)
    · rw [show ck_least p q l h c a (i + 1) = ck_least p q l h c a i from ck_mx3 ex] at h1
      exact br_t rfl (nm_r (nI_1 i) h1)
    · refine br_f (by decide) (xk_lackOf H (by omega) ⟨hin, nm_r (e' := cz_I (ck_L p q l h i c + (h a : Int))) ?_ ?_⟩)
      · rw [nI_clamp (by omega), e4, cz_n, cz_add]
      · have hL := fun s => ck_LS H (by omega) s
        refine cz_b (cz_le (ck_Si ?_) (ck_Si ?_)) (fun hf => ?_) (fun hf => ?_)
        · have := hL i; omega
        · have := ck_mxB (g := fun s => ck_x s (p a) (q a)) (f := fun s => ck_L p q l h s c + (h a : Int)) (a0 := (l a : Int)) (b := 5000) i (by omega) (fun s => by have := hL s; omega)
          unfold ck_least; omega
        · rw [show ck_least p q l h c a (i + 1) = ck_least p q l h c a i from ck_mx1 ex hf] at h1
          exact nm_r (nI_1 i) h1
        · rw [show ck_least p q l h c a (i + 1) = ck_L p q l h i c + (h a : Int) from ck_mx2 ex hf] at h1
          exact nm_r (nI_1 i) h1
theorem xk_mostL {post : Int32 → Prop} {c a : Nat} {p q l h : Nat → Nat} {a1 a2 a3 a4 : Nat → Int32} (H : ck_H 12 c p q l h a1 a2 a3 a4) (ha : a < c) (hp : post (cz_I (ck_most p q l h c a 64))) : ∀ d i n : Nat, i + d = 64 → d < n → wX_most_46 post (nI a) (nI (p a)) (nI (q a)) (nI c) a1 a2 a3 a4 n (cz_I (ck_most p q l h c a i)) (nI i) := by
  have hc := H.1
  obtain ⟨vp, vq, vl, vh, e1, e2, e3, e4⟩ := H.2 a ha
  have hin : vp_in (nI a) 12 := vp_in_nI (by omega) (by omega)
  intro d
  induction d with
  | zero =>
    intro i n e hn
    obtain ⟨m, rfl, hm⟩ := ck_fu hn
    have e' : i = 64 := by omega
    subst e'
    exact br_t (nI_le (a := 64) (Nat.le_refl _) (by omega)) hp
  | succ d ih =>
    intro i n e hn
    obtain ⟨m, rfl, hm⟩ := ck_fu hn
    have h1 := ih (i + 1) m (by omega) (by omega)
    refine br_f (nI_ge (b := 64) (by omega) (by omega)) (xk_crosses (by omega) vq vp ?_)
    cases ex : ck_x i (q a) (p a)
    · rw [show ck_most p q l h c a (i + 1) = ck_most p q l h c a i from ck_mn3 ex] at h1
      exact br_t rfl (nm_r (nI_1 i) h1)
    · refine br_f (by decide) ⟨hin, xk_lackOf H (by omega) (nm_r (e' := cz_I ((l a : Int) - ck_L p q l h i c)) ?_ ?_)⟩
      · rw [nI_clamp (by omega), e3, cz_n, cz_sub]
      · have hL := fun s => ck_LS H (by omega) s
        refine cz_b (cz_le (ck_Si ?_) (ck_Si ?_)) (fun hf => ?_) (fun hf => ?_)
        · have := ck_mnB (g := fun s => ck_x s (q a) (p a)) (f := fun s => (l a : Int) - ck_L p q l h s c) (a0 := (h a : Int)) (b := 5000) i (by omega) (fun s => by have := hL s; omega)
          unfold ck_most; omega
        · have := hL i; omega
        · rw [show ck_most p q l h c a (i + 1) = ck_most p q l h c a i from ck_mn1 ex hf] at h1
          exact nm_r (nI_1 i) h1
        · rw [show ck_most p q l h c a (i + 1) = (l a : Int) - ck_L p q l h i c from ck_mn2 ex hf] at h1
          exact nm_r (nI_1 i) h1
theorem xk_roomL {post : Int32 → Prop} {c s t : Nat} {p q l h : Nat → Nat} {a1 a2 a3 a4 : Nat → Int32} (H : ck_H 12 c p q l h a1 a2 a3 a4) (vs : s < 6) (vt : t < 6) (hp : post (cz_I (ck_room p q l h c s t 64))) : ∀ d i n : Nat, i + d = 64 → d < n → wX_roomFrom_12 post (nI s) (nI t) (nI c) a1 a2 a3 a4 n (cz_I (ck_room p q l h c s t i)) (nI i) := by
  intro d
  induction d with
  | zero =>
    intro i n e hn
    obtain ⟨m, rfl, hm⟩ := ck_fu hn
    have e' : i = 64 := by omega
    subst e'
    exact br_t (nI_le (a := 64) (Nat.le_refl _) (by omega)) hp
  | succ d ih =>
    intro i n e hn
    obtain ⟨m, rfl, hm⟩ := ck_fu hn
    have h1 := ih (i + 1) m (by omega) (by omega)
    refine br_f (nI_ge (b := 64) (by omega) (by omega)) (xk_crosses (by omega) vs vt ?_)
    cases ex : ck_x i s t
    · rw [show ck_room p q l h c s t (i + 1) = ck_room p q l h c s t i from ck_mn3 ex] at h1
      exact br_t rfl (nm_r (nI_1 i) h1)
    · refine br_f (by decide) (xk_lackOf H (by omega) (nm_r (cz_neg _) ?_))
      have hL := fun s => ck_LS H (by omega) s
      refine cz_b (cz_le (ck_Si ?_) (ck_Si ?_)) (fun hf => ?_) (fun hf => ?_)
      · have h0 := hL (2 ^ s)
        have := ck_mnB (g := fun i => ck_x i s t) (f := fun i => -ck_L p q l h i c) (a0 := -ck_L p q l h (2 ^ s) c) (b := 5000) i (by omega) (fun s => by have := hL s; omega)
        unfold ck_room; omega
      · have := hL i; omega
      · rw [show ck_room p q l h c s t (i + 1) = ck_room p q l h c s t i from ck_mn1 ex hf] at h1
        exact nm_r (nI_1 i) h1
      · rw [show ck_room p q l h c s t (i + 1) = -ck_L p q l h i c from ck_mn2 ex hf] at h1
        exact nm_r (nI_1 i) h1
theorem xk_room {post : Int32 → Prop} {c s t : Nat} {p q l h : Nat → Nat} {a1 a2 a3 a4 : Nat → Int32} (H : ck_H 12 c p q l h a1 a2 a3 a4) (vs : s < 6) (vt : t < 6) (hp : post (cz_I (ck_room p q l h c s t 64))) : wpX_roomFrom post (nI c, a1, a2, a3, a4) (nI s) (nI t) := by
  have h1 := xk_roomL H vs vt hp 64 0 65 (by omega) (by omega)
  rw [nI_0] at h1
  unfold wpX_roomFrom
  dsimp only
  rw [ck_one s vs]
  exact xk_lackOf H (ck_onelt s vs) (nm_r (cz_neg _) ⟨65, h1⟩)
theorem xk_52 {post : Int32 → Prop} {J3 : Int32 → Prop} {x1 x2 x3 f : Int32} {a1 a2 a3 a4 : Nat → Int32} {i : Nat} {z : Int} (hz : cz_S z) (h1 : z ≤ 0 → J3 (nI (i + 1))) (h2 : ¬ z ≤ 0 → post 0) : wX_isPossibleWith_52 post J3 x1 x2 x3 (nI i) (cz_I z) f a1 a2 a3 a4 := by
  unfold wX_isPossibleWith_52
  exact cz_b (cz_le0 hz) (fun h => nm_r (nI_1 i) (h1 h)) h2
theorem xk_35 {post : Int32 → Prop} {J3 : Int32 → Prop} {f : Int32} {a1 a2 a3 a4 : Nat → Int32} {i s t m : Nat} {z : Int} (hi : i < 64) (vs : s < 6) (vt : t < 6) (hz : cz_S (z - (if ck_x i t s then (m : Int) else 0))) (h1 : z - (if ck_x i t s then (m : Int) else 0) ≤ 0 → J3 (nI (i + 1))) (h2 : ¬ z - (if ck_x i t s then (m : Int) else 0) ≤ 0 → post 0) : wX_isPossibleWith_35 post J3 (nI t) (nI s) (nI m) (nI i) (cz_I z) f a1 a2 a3 a4 := by
  unfold wX_isPossibleWith_35
  refine xk_crosses hi vt vs ?_
  cases ex : ck_x i t s
  · rw [ex] at hz h1 h2
    simp at hz h1 h2
    exact br_t rfl (xk_52 hz h1 (fun h => h2 (by omega)))
  · rw [ex] at hz h1 h2
    simp at hz h1 h2
    refine br_f (by decide) (nm_r (e' := cz_I (z - (m : Int))) ?_ (xk_52 hz (fun h => h1 (by omega)) (fun h => h2 (by omega))))
    rw [cz_n, cz_sub]
theorem xk_possL {post : Int32 → Prop} {c s t m : Nat} {p q l h : Nat → Nat} {a1 a2 a3 a4 : Nat → Int32} (H : ck_H 12 c p q l h a1 a2 a3 a4) (vs : s < 6) (vt : t < 6) (hm : m ≤ 240) (hT : ck_T p q l h c s t m → post 1) (hF : ¬ ck_T p q l h c s t m → post 0) : ∀ d i n : Nat, i + d = 64 → d < n → (∀ j, j < i → ck_L p q l h j c + ck_c j t s m m ≤ 0) → wX_isPossibleWith_3 post (nI t) (nI s) (nI m) (nI c) a1 a2 a3 a4 n (nI i) := by
  intro d
  induction d with
  | zero =>
    intro i n e hn hj
    obtain ⟨k, rfl, hk⟩ := ck_fu hn
    have e' : i = 64 := by omega
    subst e'
    exact br_t (nI_le (a := 64) (Nat.le_refl _) (by omega)) (hT ((ck_T0 p q l h c s t m).mpr hj))
  | succ d ih =>
    intro i n e hn hj
    obtain ⟨k, rfl, hk⟩ := ck_fu hn
    have hL := ck_LS H (by omega) i
    have hok : ck_L p q l h i c + ck_c i t s m m ≤ 0 → wX_isPossibleWith_3 post (nI t) (nI s) (nI m) (nI c) a1 a2 a3 a4 k (nI (i + 1)) := by
      intro hi
      refine ih (i + 1) k (by omega) (by omega) (fun j hlt => ?_)
      by_cases ej : j = i
      · rw [ej]; exact hi
      · exact hj j (by omega)
    have hno : ¬ ck_L p q l h i c + ck_c i t s m m ≤ 0 → post 0 := by
      intro hi
      exact hF (fun T => hi ((ck_T0 p q l h c s t m).mp T i (by omega)))
    have hb : cz_S (ck_L p q l h i c + ck_c i t s m m) := by
      refine ck_Si ?_
      unfold ck_c
      cases ck_x i s t <;> cases ck_x i t s <;> simp <;> omega
    refine br_f (nI_ge (b := 64) (by omega) (by omega)) (xk_lackOf H (by omega) (xk_crosses (by omega) vs vt ?_))
    cases ex : ck_x i s t
    · have e1 : ck_L p q l h i c - (if ck_x i t s then (m : Int) else 0) = ck_L p q l h i c + ck_c i t s m m := by
        unfold ck_c; rw [ex]; simp; omega
      refine br_t rfl (xk_35 (by omega) vs vt ?_ ?_ ?_)
      · rw [e1]; exact hb
      · rw [e1]; exact hok
      · rw [e1]; exact hno
    · have e1 : ck_L p q l h i c + (m : Int) - (if ck_x i t s then (m : Int) else 0) = ck_L p q l h i c + ck_c i t s m m := by
        unfold ck_c; rw [ex]; simp; omega
      refine br_f (by decide) (nm_r (e' := cz_I (ck_L p q l h i c + (m : Int))) ?_ (xk_35 (by omega) vs vt ?_ ?_ ?_))
      · rw [cz_n, cz_add]
      · rw [e1]; exact hb
      · rw [e1]; exact hok
      · rw [e1]; exact hno
theorem xk_poss {post : Int32 → Prop} {c s t m : Nat} {p q l h : Nat → Nat} {a1 a2 a3 a4 : Nat → Int32} (H : ck_H 12 c p q l h a1 a2 a3 a4) (vs : s < 6) (vt : t < 6) (hm : m ≤ 240) (hT : ck_T p q l h c s t m → post 1) (hF : ¬ ck_T p q l h c s t m → post 0) : wpX_isPossibleWith post (nI c, a1, a2, a3, a4) (nI t) (nI s) (nI m) := by
  have h1 := xk_possL H vs vt hm hT hF 64 0 65 (by omega) (by omega) (fun j hj => by omega)
  rw [nI_0] at h1
  exact ⟨65, h1⟩
