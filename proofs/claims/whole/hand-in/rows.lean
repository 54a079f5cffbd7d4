section
/-! rows from kit/rows -/
theorem pk_us {f : Nat → Int32} {k : Nat} {x : Int32} : upd f k x k = x := if_pos rfl
theorem pk_un {f : Nat → Int32} {k j : Nat} {x : Int32} (h : j ≠ k) : upd f k x j = f j := if_neg h
theorem pk_m1 (n : Nat) : nI (n + 1) + (-1) = nI n := by
  rw [← nI_1, Int32.add_assoc, show (1 : Int32) + (-1) = 0 from rfl, Int32.add_zero]
/-! whole numbers as Java ints -/
def cz_I (z : Int) : Int32 := Int32.ofInt z
theorem cz_n (n : Nat) : nI n = cz_I (n : Int) := (Int32.ofInt_eq_ofNat).symm
theorem cz_0 : cz_I 0 = 0 := by decide
theorem cz_add (a b : Int) : cz_I a + cz_I b = cz_I (a + b) := (Int32.ofInt_add a b).symm
theorem cz_sub (a b : Int) : cz_I a - cz_I b = cz_I (a - b) := (Int32.ofInt_sub a b).symm
theorem cz_neg (a : Int) : -cz_I a = cz_I (-a) := (Int32.ofInt_neg a).symm
def cz_S (a : Int) : Prop := -100000 ≤ a ∧ a ≤ 100000
theorem cz_t {a : Int} (h : cz_S a) : (cz_I a).toInt = a :=
  Int32.toInt_ofInt_of_le (by have := h.1; omega) (by have := h.2; omega)
theorem cz_le {a b : Int} (ha : cz_S a) (hb : cz_S b) : cz_I a ≤ cz_I b ↔ a ≤ b := by
  rw [Int32.le_iff_toInt_le, cz_t ha, cz_t hb]
theorem cz_lt {a b : Int} (ha : cz_S a) (hb : cz_S b) : cz_I a < cz_I b ↔ a < b := by
  rw [Int32.lt_iff_toInt_lt, cz_t ha, cz_t hb]
theorem cz_eq {a b : Int} (ha : cz_S a) (hb : cz_S b) : cz_I a = cz_I b ↔ a = b := by
  rw [← Int32.toInt_inj, cz_t ha, cz_t hb]
theorem cz_S0 : cz_S 0 := ⟨by decide, by decide⟩
theorem cz_le0 {a : Int} (ha : cz_S a) : cz_I a ≤ 0 ↔ a ≤ 0 := by
  rw [← cz_0]; exact cz_le ha cz_S0
theorem cz_eq0 {a : Int} (ha : cz_S a) : cz_I a = 0 ↔ a = 0 := by
  rw [← cz_0]; exact cz_eq ha cz_S0
theorem cz_lt0 {a : Int} (ha : cz_S a) : cz_I a < 0 ↔ a < 0 := by
  rw [← cz_0]; exact cz_lt ha cz_S0
/-- a branch by a whole-number fact -/
theorem cz_b {c d A B : Prop} (e : c ↔ d) (f : d → A) (g : ¬ d → B) : (c → A) ∧ (¬ c → B) :=
  ⟨fun h => f (e.mp h), fun h => g (fun z => h (e.mpr z))⟩
/-! sets and arcs -/
/-- a goes out of the set s towards b -/
def ck_x (s a b : Nat) : Bool := s.testBit a && !s.testBit b
def ck_B (b : Bool) : Int32 := if b then 1 else 0
theorem ck_bit : ∀ s, s < 64 → ∀ v, v < 6 → (nI s >>> (nI v &&& 31)) &&& 1 = ck_B (s.testBit v) := by decide +kernel
theorem ck_one : ∀ v, v < 6 → (1 : Int32) <<< (nI v &&& 31) = nI (2 ^ v) := by decide +kernel
theorem ck_onelt : ∀ v, v < 6 → 2 ^ v < 64 := by decide +kernel
theorem ck_onex : ∀ v, v < 6 → ∀ w, w < 6 → v ≠ w → ck_x (2 ^ v) v w = true := by decide +kernel
theorem ck_1 (h : ck_B true = 0) : False := absurd h (by decide)
/-- what one arc from p to q with amounts l to h adds to the lack of s -/
def ck_c (s p q l h : Nat) : Int := (if ck_x s q p then (l : Int) else 0) - (if ck_x s p q then (h : Int) else 0)
/-- the lack of s by the first n arcs -/
def ck_L (p q l h : Nat → Nat) (s : Nat) : Nat → Int
  | 0 => 0
  | n + 1 => ck_L p q l h s n + ck_c s (p n) (q n) (l n) (h n)
def ck_u (f : Nat → Nat) (k x : Nat) : Nat → Nat := fun j => if j = k then x else f j
theorem ck_us (f : Nat → Nat) (k x : Nat) : ck_u f k x k = x := if_pos rfl
theorem ck_un (f : Nat → Nat) {k j : Nat} (x : Nat) (h : j ≠ k) : ck_u f k x j = f j := if_neg h
theorem ck_nx {s p q : Nat} (h : ck_x s p q = true) : ck_x s q p = false := by
  unfold ck_x at *
  cases hp : s.testBit p <;> cases hq : s.testBit q <;> simp_all
/-- bounds -/
theorem ck_bd (p q l h : Nat → Nat) (s : Nat) (B : Int) (hB : 0 ≤ B) : ∀ n : Nat, (∀ j, j < n → (l j : Int) ≤ B ∧ (h j : Int) ≤ B) → -(B * n) ≤ ck_L p q l h s n ∧ ck_L p q l h s n ≤ B * n := by
  intro n
  induction n with
  | zero => intro _; simp [ck_L]
  | succ n ih =>
    intro hj
    have h1 := ih (fun j hn => hj j (by omega))
    have h2 := hj n (by omega)
    have e : B * ((n + 1 : Nat) : Int) = B * n + B := by rw [Int.natCast_add, Int.mul_add]; simp
    rw [e]
    show -(B * n + B) ≤ ck_L p q l h s n + ck_c s (p n) (q n) (l n) (h n) ∧ ck_L p q l h s n + ck_c s (p n) (q n) (l n) (h n) ≤ B * n + B
    have h3 : -B ≤ ck_c s (p n) (q n) (l n) (h n) ∧ ck_c s (p n) (q n) (l n) (h n) ≤ B := by
      unfold ck_c
      by_cases c1 : ck_x s (q n) (p n) = true
      · rw [if_pos c1, ck_nx c1]; simp; omega
      · rw [if_neg c1]
        by_cases c2 : ck_x s (p n) (q n) = true
        · rw [if_pos c2]; omega
        · rw [if_neg c2]; omega
    generalize B * (n : Int) = M at *
    omega
/-- only what stands below n counts -/
theorem ck_cong {p q l h p' q' l' h' : Nat → Nat} (s : Nat) : ∀ n : Nat, (∀ j, j < n → p' j = p j ∧ q' j = q j ∧ l' j = l j ∧ h' j = h j) → ck_L p' q' l' h' s n = ck_L p q l h s n := by
  intro n
  induction n with
  | zero => intro _; rfl
  | succ n ih =>
    intro hj
    obtain ⟨e1, e2, e3, e4⟩ := hj n (by omega)
    show ck_L p' q' l' h' s n + _ = ck_L p q l h s n + _
    rw [ih (fun j hn => hj j (by omega)), e1, e2, e3, e4]
/-- one arc more -/
theorem ck_more (p q l h : Nat → Nat) (s c a b x : Nat) : ck_L (ck_u p c a) (ck_u q c b) (ck_u l c x) (ck_u h c x) s (c + 1) = ck_L p q l h s c + ck_c s a b x x := by
  show ck_L (ck_u p c a) (ck_u q c b) (ck_u l c x) (ck_u h c x) s c + _ = _
  rw [ck_us, ck_us, ck_us, ck_us, ck_cong (p := p) (q := q) (l := l) (h := h) s c]
  intro j hj
  exact ⟨ck_un _ _ (by omega), ck_un _ _ (by omega), ck_un _ _ (by omega), ck_un _ _ (by omega)⟩
/-- one arc's amounts fixed -/
theorem ck_fix (p q l h : Nat → Nat) (s a x : Nat) : ∀ n : Nat, a < n → ck_L p q (ck_u l a x) (ck_u h a x) s n = ck_L p q l h s n + ck_c s (p a) (q a) x x - ck_c s (p a) (q a) (l a) (h a) := by
  intro n
  induction n with
  | zero => intro h; omega
  | succ n ih =>
    intro ha
    show ck_L p q (ck_u l a x) (ck_u h a x) s n + _ = ck_L p q l h s n + _ + _ - _
    by_cases e : a = n
    · subst e
      rw [ck_us, ck_us, ck_cong (p := p) (q := q) (l := l) (h := h) s a (fun j hj => ⟨rfl, rfl, ck_un _ _ (by omega), ck_un _ _ (by omega)⟩)]
      omega
    · rw [ih (by omega), ck_un _ _ (fun z => e z.symm), ck_un _ _ (fun z => e z.symm)]
      omega
/-- two sets against their union and meet, one arc -/
theorem ck_sup1 (S T p q l h : Nat) (hl : l ≤ h) : ck_c S p q l h + ck_c T p q l h ≤ ck_c (S ||| T) p q l h + ck_c (S &&& T) p q l h := by
  unfold ck_c ck_x
  simp only [Nat.testBit_or, Nat.testBit_and]
  cases S.testBit p <;> cases S.testBit q <;> cases T.testBit p <;> cases T.testBit q <;> simp <;> omega
theorem ck_sup1x (S T p q l h : Nat) (h1 : ck_x S p q = true) (h2 : ck_x T q p = true) : ck_c S p q l h + ck_c T p q l h + ((h : Int) - l) = ck_c (S ||| T) p q l h + ck_c (S &&& T) p q l h := by
  unfold ck_c ck_x at *
  simp only [Nat.testBit_or, Nat.testBit_and]
  revert h1 h2
  cases S.testBit p <;> cases S.testBit q <;> cases T.testBit p <;> cases T.testBit q <;> simp <;> omega
theorem ck_sup (p q l h : Nat → Nat) (S T : Nat) : ∀ n : Nat, (∀ j, j < n → l j ≤ h j) → ck_L p q l h S n + ck_L p q l h T n ≤ ck_L p q l h (S ||| T) n + ck_L p q l h (S &&& T) n := by
  intro n
  induction n with
  | zero => intro _; simp [ck_L]
  | succ n ih =>
    intro hj
    have h1 := ih (fun j hn => hj j (by omega))
    have h2 := ck_sup1 S T (p n) (q n) (l n) (h n) (hj n (by omega))
    simp only [ck_L]
    omega
theorem ck_supx (p q l h : Nat → Nat) (S T a : Nat) (h1 : ck_x S (p a) (q a) = true) (h2 : ck_x T (q a) (p a) = true) : ∀ n : Nat, a < n → (∀ j, j < n → l j ≤ h j) → ck_L p q l h S n + ck_L p q l h T n + ((h a : Int) - l a) ≤ ck_L p q l h (S ||| T) n + ck_L p q l h (S &&& T) n := by
  intro n
  induction n with
  | zero => intro h; omega
  | succ n ih =>
    intro ha hj
    by_cases e : a = n
    · subst e
      have h3 := ck_sup p q l h S T a (fun j hn => hj j (by omega))
      have h4 := ck_sup1x S T (p a) (q a) (l a) (h a) h1 h2
      simp only [ck_L]
      omega
    · have h3 := ih (by omega) (fun j hn => hj j (by omega))
      have h4 := ck_sup1 S T (p n) (q n) (l n) (h n) (hj n (by omega))
      simp only [ck_L]
      omega
/-! greatest and smallest over the sets that g takes -/
def ck_mx (g : Nat → Bool) (f : Nat → Int) (a0 : Int) : Nat → Int
  | 0 => a0
  | n + 1 => if g n then (if f n ≤ ck_mx g f a0 n then ck_mx g f a0 n else f n) else ck_mx g f a0 n
def ck_mn (g : Nat → Bool) (f : Nat → Int) (a0 : Int) : Nat → Int
  | 0 => a0
  | n + 1 => if g n then (if ck_mn g f a0 n ≤ f n then ck_mn g f a0 n else f n) else ck_mn g f a0 n
theorem ck_mx_p (g : Nat → Bool) (f : Nat → Int) (a0 : Int) : ∀ n : Nat, a0 ≤ ck_mx g f a0 n ∧ (∀ i, i < n → g i = true → f i ≤ ck_mx g f a0 n) ∧ (ck_mx g f a0 n = a0 ∨ ∃ i, i < n ∧ g i = true ∧ ck_mx g f a0 n = f i) := by
  intro n
  induction n with
  | zero => exact ⟨Int.le_refl _, fun i hi => by omega, Or.inl rfl⟩
  | succ n ih =>
    obtain ⟨h1, h2, h3⟩ := ih
    show a0 ≤ (if g n then (if f n ≤ ck_mx g f a0 n then ck_mx g f a0 n else f n) else ck_mx g f a0 n) ∧ (∀ i, i < n + 1 → g i = true → f i ≤ (if g n then (if f n ≤ ck_mx g f a0 n then ck_mx g f a0 n else f n) else ck_mx g f a0 n)) ∧ ((if g n then (if f n ≤ ck_mx g f a0 n then ck_mx g f a0 n else f n) else ck_mx g f a0 n) = a0 ∨ ∃ i, i < n + 1 ∧ g i = true ∧ (if g n then (if f n ≤ ck_mx g f a0 n then ck_mx g f a0 n else f n) else ck_mx g f a0 n) = f i)
    generalize ck_mx g f a0 n = m at *
    by_cases hg : g n = true
    · rw [if_pos hg]
      by_cases hf : f n ≤ m
      · rw [if_pos hf]
        refine ⟨h1, fun i hi gi => ?_, h3.imp id (fun ⟨i, hi, z⟩ => ⟨i, by omega, z⟩)⟩
        by_cases e : i = n
        · subst e; exact hf
        · exact h2 i (by omega) gi
      · rw [if_neg hf]
        refine ⟨by omega, fun i hi gi => ?_, Or.inr ⟨n, by omega, hg, rfl⟩⟩
        by_cases e : i = n
        · subst e; exact Int.le_refl _
        · have := h2 i (by omega) gi; omega
    · rw [if_neg hg]
      refine ⟨h1, fun i hi gi => ?_, h3.imp id (fun ⟨i, hi, z⟩ => ⟨i, by omega, z⟩)⟩
      by_cases e : i = n
      · subst e; exact absurd gi hg
      · exact h2 i (by omega) gi
theorem ck_mn_p (g : Nat → Bool) (f : Nat → Int) (a0 : Int) : ∀ n : Nat, ck_mn g f a0 n ≤ a0 ∧ (∀ i, i < n → g i = true → ck_mn g f a0 n ≤ f i) ∧ (ck_mn g f a0 n = a0 ∨ ∃ i, i < n ∧ g i = true ∧ ck_mn g f a0 n = f i) := by
  intro n
  induction n with
  | zero => exact ⟨Int.le_refl _, fun i hi => by omega, Or.inl rfl⟩
  | succ n ih =>
    obtain ⟨h1, h2, h3⟩ := ih
    show (if g n then (if ck_mn g f a0 n ≤ f n then ck_mn g f a0 n else f n) else ck_mn g f a0 n) ≤ a0 ∧ (∀ i, i < n + 1 → g i = true → (if g n then (if ck_mn g f a0 n ≤ f n then ck_mn g f a0 n else f n) else ck_mn g f a0 n) ≤ f i) ∧ ((if g n then (if ck_mn g f a0 n ≤ f n then ck_mn g f a0 n else f n) else ck_mn g f a0 n) = a0 ∨ ∃ i, i < n + 1 ∧ g i = true ∧ (if g n then (if ck_mn g f a0 n ≤ f n then ck_mn g f a0 n else f n) else ck_mn g f a0 n) = f i)
    generalize ck_mn g f a0 n = m at *
    by_cases hg : g n = true
    · rw [if_pos hg]
      by_cases hf : m ≤ f n
      · rw [if_pos hf]
        refine ⟨h1, fun i hi gi => ?_, h3.imp id (fun ⟨i, hi, z⟩ => ⟨i, by omega, z⟩)⟩
        by_cases e : i = n
        · subst e; exact hf
        · exact h2 i (by omega) gi
      · rw [if_neg hf]
        refine ⟨by omega, fun i hi gi => ?_, Or.inr ⟨n, by omega, hg, rfl⟩⟩
        by_cases e : i = n
        · subst e; exact Int.le_refl _
        · have := h2 i (by omega) gi; omega
    · rw [if_neg hg]
      refine ⟨h1, fun i hi gi => ?_, h3.imp id (fun ⟨i, hi, z⟩ => ⟨i, by omega, z⟩)⟩
      by_cases e : i = n
      · subst e; exact absurd gi hg
      · exact h2 i (by omega) gi
/-- the greatest lack of all 64 sets, at least 0 -/
def ck_W (p q l h : Nat → Nat) (n : Nat) : Int := ck_mx (fun _ => true) (fun s => ck_L p q l h s n) 0 64
theorem ck_W0 (p q l h : Nat → Nat) (n : Nat) : ck_W p q l h n = 0 ↔ ∀ s, s < 64 → ck_L p q l h s n ≤ 0 := by
  obtain ⟨h1, h2, h3⟩ := ck_mx_p (fun _ => true) (fun s => ck_L p q l h s n) 0 64
  unfold ck_W
  refine ⟨fun e s hs => by have := h2 s hs rfl; omega, fun H => ?_⟩
  rcases h3 with e | ⟨i, hi, _, e⟩
  · exact e
  · have := H i hi; omega
/-- least -/
def ck_least (p q l h : Nat → Nat) (c a n : Nat) : Int := ck_mx (fun s => ck_x s (p a) (q a)) (fun s => ck_L p q l h s c + (h a : Int)) (l a) n
def ck_most (p q l h : Nat → Nat) (c a n : Nat) : Int := ck_mn (fun s => ck_x s (q a) (p a)) (fun s => (l a : Int) - ck_L p q l h s c) (h a) n
theorem ck_fixc (s p q l h x : Nat) : ck_c s p q x x - ck_c s p q l h = (if ck_x s q p then (x : Int) - l else 0) + (if ck_x s p q then (h : Int) - x else 0) := by
  unfold ck_c
  by_cases c1 : ck_x s q p = true
  · rw [ck_nx c1]; simp [c1]
  · by_cases c2 : ck_x s p q = true
    · simp [c1, c2]; omega
    · simp [c1, c2]
theorem ck_fixL (p q l h : Nat → Nat) (s a x n : Nat) (ha : a < n) : ck_L p q (ck_u l a x) (ck_u h a x) s n = ck_L p q l h s n + ((if ck_x s (q a) (p a) then (x : Int) - l a else 0) + (if ck_x s (p a) (q a) then (h a : Int) - x else 0)) := by
  rw [ck_fix p q l h s a x n ha, ← ck_fixc]; omega
/-- where the network is not possible no amount helps -/
theorem ck_never (p q l h : Nat → Nat) (c a x : Nat) (ha : a < c) (hW : ck_W p q l h c ≠ 0) (h1 : l a ≤ x) (h2 : x ≤ h a) : ck_W p q (ck_u l a x) (ck_u h a x) c ≠ 0 := by
  intro e
  apply hW
  rw [ck_W0] at e ⊢
  intro s hs
  have h3 := e s hs
  rw [ck_fixL p q l h s a x c ha] at h3
  by_cases c1 : ck_x s (q a) (p a) = true
  · rw [ck_nx c1] at h3; simp [c1] at h3; omega
  · by_cases c2 : ck_x s (p a) (q a) = true
    · simp [c1, c2] at h3; omega
    · simp [c1, c2] at h3; omega
theorem ck_or64 {S T : Nat} (h1 : S < 64) (h2 : T < 64) : S ||| T < 64 := Nat.or_lt_two_pow (n := 6) h1 h2
theorem ck_and64 {S T : Nat} (h1 : S < 64) : S &&& T < 64 := Nat.lt_of_le_of_lt Nat.and_le_left h1
theorem ck_least_p (p q l h : Nat → Nat) (c a : Nat) (ha : a < c) (hv : ∀ j, j < c → l j ≤ h j) (hW : ck_W p q l h c = 0) :
    ∃ m : Nat, ck_least p q l h c a 64 = (m : Int) ∧ l a ≤ m ∧ m ≤ h a ∧ ck_W p q (ck_u l a m) (ck_u h a m) c = 0 ∧ ∀ y, l a ≤ y → y < m → ck_W p q (ck_u l a y) (ck_u h a y) c ≠ 0 := by
  rw [ck_W0] at hW
  obtain ⟨h1, h2, h3⟩ := ck_mx_p (fun s => ck_x s (p a) (q a)) (fun s => ck_L p q l h s c + (h a : Int)) (l a) 64
  change (l a : Int) ≤ ck_least p q l h c a 64 at h1
  change ∀ i, i < 64 → ck_x i (p a) (q a) = true → ck_L p q l h i c + (h a : Int) ≤ ck_least p q l h c a 64 at h2
  change ck_least p q l h c a 64 = (l a : Int) ∨ ∃ i, i < 64 ∧ ck_x i (p a) (q a) = true ∧ ck_least p q l h c a 64 = ck_L p q l h i c + (h a : Int) at h3
  obtain ⟨m, hm⟩ : ∃ m : Nat, ck_least p q l h c a 64 = (m : Int) := ⟨(ck_least p q l h c a 64).toNat, by omega⟩
  rw [hm] at h1 h2 h3
  have hla := hv a ha
  refine ⟨m, hm, by omega, ?_, ?_, ?_⟩
  · rcases h3 with e | ⟨i, hi, _, e⟩
    · omega
    · have := hW i hi; omega
  · rw [ck_W0]
    intro s hs
    rw [ck_fixL p q l h s a m c ha]
    have hs0 := hW s hs
    by_cases c1 : ck_x s (q a) (p a) = true
    · rw [ck_nx c1]; simp [c1]
      rcases h3 with e | ⟨i, hi, hx, e⟩
      · omega
      · have h5 := ck_supx p q l h i s a hx c1 c ha hv
        have h6 := hW _ (ck_or64 hi hs)
        have h7 := hW _ (ck_and64 (T := s) hi)
        omega
    · by_cases c2 : ck_x s (p a) (q a) = true
      · have := h2 s hs c2
        simp [c1, c2]; omega
      · simp [c1, c2]; exact hs0
  · intro y hy1 hy2 hW'
    rw [ck_W0] at hW'
    rcases h3 with e | ⟨i, hi, hx, e⟩
    · omega
    · have h5 := hW' i hi
      rw [ck_fixL p q l h i a y c ha] at h5
      rw [ck_nx hx] at h5; simp [hx] at h5; omega
theorem ck_most_p (p q l h : Nat → Nat) (c a : Nat) (ha : a < c) (hv : ∀ j, j < c → l j ≤ h j) (hW : ck_W p q l h c = 0) :
    ∃ m : Nat, ck_most p q l h c a 64 = (m : Int) ∧ l a ≤ m ∧ m ≤ h a ∧ ck_W p q (ck_u l a m) (ck_u h a m) c = 0 ∧ ∀ y, m < y → y ≤ h a → ck_W p q (ck_u l a y) (ck_u h a y) c ≠ 0 := by
  rw [ck_W0] at hW
  obtain ⟨h1, h2, h3⟩ := ck_mn_p (fun s => ck_x s (q a) (p a)) (fun s => (l a : Int) - ck_L p q l h s c) (h a) 64
  change ck_most p q l h c a 64 ≤ (h a : Int) at h1
  change ∀ i, i < 64 → ck_x i (q a) (p a) = true → ck_most p q l h c a 64 ≤ (l a : Int) - ck_L p q l h i c at h2
  change ck_most p q l h c a 64 = (h a : Int) ∨ ∃ i, i < 64 ∧ ck_x i (q a) (p a) = true ∧ ck_most p q l h c a 64 = (l a : Int) - ck_L p q l h i c at h3
  have hla := hv a ha
  have hlo : (l a : Int) ≤ ck_most p q l h c a 64 := by
    rcases h3 with e | ⟨i, hi, _, e⟩
    · omega
    · have := hW i hi; omega
  obtain ⟨m, hm⟩ : ∃ m : Nat, ck_most p q l h c a 64 = (m : Int) := ⟨(ck_most p q l h c a 64).toNat, by omega⟩
  rw [hm] at h1 h2 h3 hlo
  refine ⟨m, hm, by omega, by omega, ?_, ?_⟩
  · rw [ck_W0]
    intro s hs
    rw [ck_fixL p q l h s a m c ha]
    have hs0 := hW s hs
    by_cases c1 : ck_x s (q a) (p a) = true
    · have := h2 s hs c1
      rw [ck_nx c1]; simp [c1]; omega
    · by_cases c2 : ck_x s (p a) (q a) = true
      · simp [c1, c2]
        rcases h3 with e | ⟨i, hi, hx, e⟩
        · omega
        · have h5 := ck_supx p q l h s i a c2 hx c ha hv
          have h6 := hW _ (ck_or64 hs hi)
          have h7 := hW _ (ck_and64 (T := i) hs)
          omega
      · simp [c1, c2]; exact hs0
  · intro y hy1 hy2 hW'
    rw [ck_W0] at hW'
    rcases h3 with e | ⟨i, hi, hx, e⟩
    · omega
    · have h5 := hW' i hi
      rw [ck_fixL p q l h i a y c ha] at h5
      rw [ck_nx hx] at h5; simp [hx] at h5; omega
/-- through: one more arc from t to s -/
def ck_room (p q l h : Nat → Nat) (c s t n : Nat) : Int := ck_mn (fun i => ck_x i s t) (fun i => -ck_L p q l h i c) (-ck_L p q l h (2 ^ s) c) n
def ck_T (p q l h : Nat → Nat) (c s t x : Nat) : Prop := ck_W (ck_u p c t) (ck_u q c s) (ck_u l c x) (ck_u h c x) (c + 1) = 0
theorem ck_T0 (p q l h : Nat → Nat) (c s t x : Nat) : ck_T p q l h c s t x ↔ ∀ i, i < 64 → ck_L p q l h i c + ck_c i t s x x ≤ 0 := by
  unfold ck_T
  rw [ck_W0]
  constructor
  · intro H i hi; rw [← ck_more]; exact H i hi
  · intro H i hi; rw [ck_more]; exact H i hi
theorem ck_through_p (p q l h : Nat → Nat) (c s t : Nat) (hs : s < 6) (ht : t < 6) (hst : s ≠ t) (hc : c ≤ 12) (hv : ∀ j, j < c → l j ≤ 20 ∧ h j ≤ 20) :
    (∃ m : Nat, m ≤ 240 ∧ ck_room p q l h c s t 64 = (m : Int) ∧ (∀ y, m < y → ¬ ck_T p q l h c s t y) ∧ (¬ ck_T p q l h c s t m → ∀ y, ¬ ck_T p q l h c s t y)) ∨ (ck_room p q l h c s t 64 < 0 ∧ -240 ≤ ck_room p q l h c s t 64 ∧ ∀ y, ¬ ck_T p q l h c s t y) := by
  obtain ⟨h1, h2, h3⟩ := ck_mn_p (fun i => ck_x i s t) (fun i => -ck_L p q l h i c) (-ck_L p q l h (2 ^ s) c) 64
  change ck_room p q l h c s t 64 ≤ -ck_L p q l h (2 ^ s) c at h1
  change ∀ i, i < 64 → ck_x i s t = true → ck_room p q l h c s t 64 ≤ -ck_L p q l h i c at h2
  change ck_room p q l h c s t 64 = -ck_L p q l h (2 ^ s) c ∨ ∃ i, i < 64 ∧ ck_x i s t = true ∧ ck_room p q l h c s t 64 = -ck_L p q l h i c at h3
  have h4 : ∃ i, i < 64 ∧ ck_x i s t = true ∧ ck_room p q l h c s t 64 = -ck_L p q l h i c := by
    rcases h3 with e | e
    · exact ⟨2 ^ s, ck_onelt s hs, ck_onex s hs t ht hst, e⟩
    · exact e
  have hb : ∀ i, -240 ≤ ck_L p q l h i c ∧ ck_L p q l h i c ≤ 240 := by
    intro i
    have := ck_bd p q l h i 20 (by decide) c (fun j hj => by have := hv j hj; omega)
    omega
  have hbig : ∀ y : Nat, ck_room p q l h c s t 64 < (y : Int) → ¬ ck_T p q l h c s t y := by
    intro y hy hT
    rw [ck_T0] at hT
    obtain ⟨i, hi, hx, e⟩ := h4
    have h5 := hT i hi
    unfold ck_c at h5
    rw [hx, ck_nx hx] at h5
    simp at h5
    omega
  by_cases hr : ck_room p q l h c s t 64 < 0
  · refine Or.inr ⟨hr, ?_, fun y => hbig y (by omega)⟩
    obtain ⟨i, hi, hx, e⟩ := h4
    have := hb i; omega
  · obtain ⟨m, hm⟩ : ∃ m : Nat, ck_room p q l h c s t 64 = (m : Int) := ⟨(ck_room p q l h c s t 64).toNat, by omega⟩
    refine Or.inl ⟨m, ?_, hm, fun y hy => hbig y (by omega), fun hn y hT => ?_⟩
    · obtain ⟨i, hi, hx, e⟩ := h4
      have := hb i; omega
    · by_cases hy : (m : Int) < y
      · exact hbig y (by omega) hT
      · apply hn
        rw [ck_T0] at hT ⊢
        intro i hi
        have h5 := hT i hi
        unfold ck_c at h5 ⊢
        by_cases c1 : ck_x i s t = true
        · have := h2 i hi c1
          rw [c1, ck_nx c1]; simp; omega
        · by_cases c2 : ck_x i t s = true
          · simp [c1, c2] at h5 ⊢; omega
          · simp [c1, c2] at h5 ⊢; exact h5
end
section
/-- arrays that show c arcs -/
def ck_H (N c : Nat) (p q l h : Nat → Nat) (a1 a2 a3 a4 : Nat → Int32) : Prop := c ≤ N ∧ ∀ j, j < c → p j < 6 ∧ q j < 6 ∧ l j ≤ 240 ∧ h j ≤ 240 ∧ a1 j = nI (p j) ∧ a2 j = nI (q j) ∧ a3 j = nI (l j) ∧ a4 j = nI (h j)
theorem ck_LS {N c : Nat} {p q l h : Nat → Nat} {a1 a2 a3 a4 : Nat → Int32} (H : ck_H N c p q l h a1 a2 a3 a4) (hN : N ≤ 13) (s : Nat) : -3120 ≤ ck_L p q l h s c ∧ ck_L p q l h s c ≤ 3120 := by
  have h1 := ck_bd p q l h s 240 (by decide) c (fun j hj => by have := (H.2 j hj).2.2.1; have := (H.2 j hj).2.2.2.1; omega)
  have := H.1
  omega
theorem ck_Si {a : Int} (h : -10000 ≤ a ∧ a ≤ 10000) : cz_S a := ⟨by omega, by omega⟩
theorem ck_mxB {g : Nat → Bool} {f : Nat → Int} {a0 b : Int} (n : Nat) (h0 : -b ≤ a0 ∧ a0 ≤ b) (hf : ∀ i, -b ≤ f i ∧ f i ≤ b) : -b ≤ ck_mx g f a0 n ∧ ck_mx g f a0 n ≤ b := by
  rcases (ck_mx_p g f a0 n).2.2 with e | ⟨i, _, _, e⟩
  · rw [e]; exact h0
  · rw [e]; exact hf i
theorem ck_mnB {g : Nat → Bool} {f : Nat → Int} {a0 b : Int} (n : Nat) (h0 : -b ≤ a0 ∧ a0 ≤ b) (hf : ∀ i, -b ≤ f i ∧ f i ≤ b) : -b ≤ ck_mn g f a0 n ∧ ck_mn g f a0 n ≤ b := by
  rcases (ck_mn_p g f a0 n).2.2 with e | ⟨i, _, _, e⟩
  · rw [e]; exact h0
  · rw [e]; exact hf i
theorem ck_mx1 {g : Nat → Bool} {f : Nat → Int} {a0 : Int} {n : Nat} (hg : g n = true) (hf : f n ≤ ck_mx g f a0 n) : ck_mx g f a0 (n + 1) = ck_mx g f a0 n := by
  show (if g n then (if f n ≤ ck_mx g f a0 n then ck_mx g f a0 n else f n) else ck_mx g f a0 n) = _
  rw [if_pos hg, if_pos hf]
theorem ck_mx2 {g : Nat → Bool} {f : Nat → Int} {a0 : Int} {n : Nat} (hg : g n = true) (hf : ¬ f n ≤ ck_mx g f a0 n) : ck_mx g f a0 (n + 1) = f n := by
  show (if g n then (if f n ≤ ck_mx g f a0 n then ck_mx g f a0 n else f n) else ck_mx g f a0 n) = _
  rw [if_pos hg, if_neg hf]
theorem ck_mx3 {g : Nat → Bool} {f : Nat → Int} {a0 : Int} {n : Nat} (hg : g n = false) : ck_mx g f a0 (n + 1) = ck_mx g f a0 n := by
  show (if g n then (if f n ≤ ck_mx g f a0 n then ck_mx g f a0 n else f n) else ck_mx g f a0 n) = _
  rw [if_neg (by rw [hg]; decide)]
theorem ck_mn1 {g : Nat → Bool} {f : Nat → Int} {a0 : Int} {n : Nat} (hg : g n = true) (hf : ck_mn g f a0 n ≤ f n) : ck_mn g f a0 (n + 1) = ck_mn g f a0 n := by
  show (if g n then (if ck_mn g f a0 n ≤ f n then ck_mn g f a0 n else f n) else ck_mn g f a0 n) = _
  rw [if_pos hg, if_pos hf]
theorem ck_mn2 {g : Nat → Bool} {f : Nat → Int} {a0 : Int} {n : Nat} (hg : g n = true) (hf : ¬ ck_mn g f a0 n ≤ f n) : ck_mn g f a0 (n + 1) = f n := by
  show (if g n then (if ck_mn g f a0 n ≤ f n then ck_mn g f a0 n else f n) else ck_mn g f a0 n) = _
  rw [if_pos hg, if_neg hf]
theorem ck_mn3 {g : Nat → Bool} {f : Nat → Int} {a0 : Int} {n : Nat} (hg : g n = false) : ck_mn g f a0 (n + 1) = ck_mn g f a0 n := by
  show (if g n then (if ck_mn g f a0 n ≤ f n then ck_mn g f a0 n else f n) else ck_mn g f a0 n) = _
  rw [if_neg (by rw [hg]; decide)]
theorem ck_fu {n d : Nat} (h : d < n) : ∃ m, n = m + 1 ∧ d ≤ m := ⟨n - 1, by omega, by omega⟩
/-! the class -/
theorem xk_contains {post : Int32 → Prop} {u : SX} {s v : Nat} (hs : s < 64) (hv : v < 6) (h : post (ck_B (s.testBit v))) : wpX_contains post u (nI s) (nI v) := by
  obtain ⟨c, a1, a2, a3, a4⟩ := u
  unfold wpX_contains
  dsimp only
  rw [ck_bit s hs v hv]
  cases hb : s.testBit v
  · rw [hb] at h; exact br_f (by decide) h
  · rw [hb] at h; exact br_t rfl h
theorem xk_crosses {post : Int32 → Prop} {u : SX} {s a b : Nat} (hs : s < 64) (ha : a < 6) (hb : b < 6) (h : post (ck_B (ck_x s a b))) : wpX_crosses post u (nI s) (nI a) (nI b) := by
  obtain ⟨c, a1, a2, a3, a4⟩ := u
  unfold wpX_crosses
  dsimp only
  refine xk_contains hs ha ?_
  cases h1 : s.testBit a
  · rw [show ck_x s a b = false from by simp [ck_x, h1]] at h
    exact br_t rfl h
  · refine br_f (by decide) (xk_contains hs hb ?_)
    cases h2 : s.testBit b
    · rw [show ck_x s a b = true from by simp [ck_x, h1, h2]] at h
      exact br_t rfl h
    · rw [show ck_x s a b = false from by simp [ck_x, h1, h2]] at h
      exact br_f (by decide) h
theorem xk_41 {post : Int32 → Prop} {J4 : Int32 → Int32 → Prop} {c s i : Nat} {p q l h : Nat → Nat} {a1 a2 a3 a4 : Nat → Int32} (H : ck_H 12 c p q l h a1 a2 a3 a4) (hs : s < 64) (hi : i < c) (z : Int) (hJ : J4 (cz_I (z - (if ck_x s (p i) (q i) then (h i : Int) else 0))) (nI (i + 1))) : wX_lackOf_41 post J4 (nI s) (cz_I z) (nI i) (nI c) a1 a2 a3 a4 := by
  have hc := H.1
  obtain ⟨hp, hq, _, _, e1, e2, e3, e4⟩ := H.2 i hi
  have hin : vp_in (nI i) 12 := vp_in_nI (by omega) (by omega)
  unfold wX_lackOf_41
  refine ⟨hin, hin, ?_⟩
  rw [nI_clamp (by omega), e1, e2]
  refine xk_crosses hs hp hq ?_
  cases e : ck_x s (p i) (q i)
  · rw [e] at hJ
    refine br_t rfl (nm_r (nI_1 i) ?_)
    simpa using hJ
  · rw [e] at hJ
    refine br_f (by decide) ⟨hin, nm_r (e' := cz_I (z - (h i : Int))) ?_ (nm_r (nI_1 i) ?_)⟩
    · rw [e4, cz_n, cz_sub]
    · simpa using hJ
theorem xk_lackL {post : Int32 → Prop} {c s : Nat} {p q l h : Nat → Nat} {a1 a2 a3 a4 : Nat → Int32} (H : ck_H 12 c p q l h a1 a2 a3 a4) (hs : s < 64) (hp : post (cz_I (ck_L p q l h s c))) : ∀ d i n : Nat, i + d = c → d < n → wX_lackOf_4 post (nI s) (nI c) a1 a2 a3 a4 n (cz_I (ck_L p q l h s i)) (nI i) := by
  have hc := H.1
  intro d
  induction d with
  | zero =>
    intro i n e hn
    obtain ⟨m, rfl, hm⟩ := ck_fu hn
    cases e
    exact br_t (nI_le (Nat.le_refl _) (by omega)) hp
  | succ d ih =>
    intro i n e hn
    obtain ⟨m, rfl, hm⟩ := ck_fu hn
    have hi : i < c := by omega
    obtain ⟨vp, vq, _, _, e1, e2, e3, e4⟩ := H.2 i hi
    have hin : vp_in (nI i) 12 := vp_in_nI (by omega) (by omega)
    have h1 := ih (i + 1) m (by omega) (by omega)
    refine br_f (nI_ge hi (by omega)) ⟨hin, hin, ?_⟩
    rw [nI_clamp (by omega), e1, e2]
    refine xk_crosses hs vq vp ?_
    cases ex : ck_x s (q i) (p i)
    · refine br_t rfl (xk_41 H hs hi _ ?_)
      rw [show ck_L p q l h s i - (if ck_x s (p i) (q i) then (h i : Int) else 0) = ck_L p q l h s (i + 1) from by simp only [ck_L, ck_c, ex]; simp; omega]
      exact h1
    · refine br_f (by decide) ⟨hin, nm_r (e' := cz_I (ck_L p q l h s i + (l i : Int))) ?_ (xk_41 H hs hi _ ?_)⟩
      · rw [e3, cz_n, cz_add]
      · rw [show ck_L p q l h s i + (l i : Int) - (if ck_x s (p i) (q i) then (h i : Int) else 0) = ck_L p q l h s (i + 1) from by simp only [ck_L, ck_c, ex]; simp; omega]
        exact h1
theorem xk_lackOf {post : Int32 → Prop} {c s : Nat} {p q l h : Nat → Nat} {a1 a2 a3 a4 : Nat → Int32} (H : ck_H 12 c p q l h a1 a2 a3 a4) (hs : s < 64) (hp : post (cz_I (ck_L p q l h s c))) : wpX_lackOf post (nI c, a1, a2, a3, a4) (nI s) := by
  have h1 := xk_lackL H hs hp c 0 (c + 1) (by omega) (by omega)
  rw [nI_0, show cz_I (ck_L p q l h s 0) = 0 from cz_0] at h1
  exact ⟨c + 1, h1⟩
theorem xk_grL {post : Int32 → Prop} {c : Nat} {p q l h : Nat → Nat} {a1 a2 a3 a4 : Nat → Int32} (H : ck_H 12 c p q l h a1 a2 a3 a4) (hp : post (cz_I (ck_W p q l h c))) : ∀ d i n : Nat, i + d = 64 → d < n → wX_greatestLack_4 post (nI c) a1 a2 a3 a4 n (cz_I (ck_mx (fun _ => true) (fun s => ck_L p q l h s c) 0 i)) (nI i) := by
  intro d
  induction d with
  | zero =>
    intro i n e hn
    obtain ⟨m, rfl, hm⟩ := ck_fu hn
    have e' : i = 64 := by omega
    subst e'
    exact br_t (nI_le (a := 64) (Nat.le_refl _) (by omega)) hp
  | succ d ih =>
    intro i n e hn
    obtain ⟨m, rfl, hm⟩ := ck_fu hn
    have h1 := ih (i + 1) m (by omega) (by omega)
    refine br_f (nI_ge (b := 64) (by omega) (by omega)) (xk_lackOf H (by omega) ?_)
    refine cz_b (cz_le (ck_Si ?_) (ck_Si ?_)) (fun hf => ?_) (fun hf => ?_)
    · have := ck_LS H (by omega) i; omega
    · have := ck_mxB (g := fun _ => true) (f := fun s => ck_L p q l h s c) (a0 := 0) (b := 3120) i (by omega) (fun s => ck_LS H (by omega) s); omega
    · rw [ck_mx1 (g := fun _ => true) rfl hf] at h1
      exact nm_r (nI_1 i) h1
    · rw [ck_mx2 (g := fun _ => true) rfl hf] at h1
      exact nm_r (nI_1 i) h1
theorem xk_greatest {post : Int32 → Prop} {c : Nat} {p q l h : Nat → Nat} {a1 a2 a3 a4 : Nat → Int32} (H : ck_H 12 c p q l h a1 a2 a3 a4) (hp : post (cz_I (ck_W p q l h c))) : wpX_greatestLack post (nI c, a1, a2, a3, a4) := by
  have h1 := xk_grL H hp 64 0 65 (by omega) (by omega)
  rw [nI_0, show cz_I (ck_mx (fun _ => true) (fun s => ck_L p q l h s c) 0 0) = 0 from cz_0] at h1
  exact ⟨65, h1⟩
/-- the meet of the sets whose lack is m -/
def ck_cm (f : Nat → Int) (m : Int) : Nat → Int32
  | 0 => 63
  | n + 1 => if f n = m then ck_cm f m n &&& nI n else ck_cm f m n
theorem ck_cm1 {f : Nat → Int} {m : Int} {n : Nat} (h : f n = m) : ck_cm f m (n + 1) = ck_cm f m n &&& nI n := if_pos h
theorem ck_cm2 {f : Nat → Int} {m : Int} {n : Nat} (h : ¬ f n = m) : ck_cm f m (n + 1) = ck_cm f m n := if_neg h
theorem ck_WS {N c : Nat} {p q l h : Nat → Nat} {a1 a2 a3 a4 : Nat → Int32} (H : ck_H N c p q l h a1 a2 a3 a4) (hN : N ≤ 13) : cz_S (ck_W p q l h c) := by
  have := ck_mxB (g := fun _ => true) (f := fun s => ck_L p q l h s c) (a0 := 0) (b := 3120) 64 (by omega) (fun s => ck_LS H hN s)
  exact ck_Si (by unfold ck_W; omega)
theorem xk_lsL {post : Int32 → Prop} {c : Nat} {p q l h : Nat → Nat} {a1 a2 a3 a4 : Nat → Int32} (H : ck_H 12 c p q l h a1 a2 a3 a4) (hp : post (ck_cm (fun s => ck_L p q l h s c) (ck_W p q l h c) 64)) : ∀ d i n : Nat, i + d = 64 → d < n → wX_lackingSet_10 post (cz_I (ck_W p q l h c)) (nI c) a1 a2 a3 a4 n (ck_cm (fun s => ck_L p q l h s c) (ck_W p q l h c) i) (nI i) := by
  intro d
  induction d with
  | zero =>
    intro i n e hn
    obtain ⟨m, rfl, hm⟩ := ck_fu hn
    have e' : i = 64 := by omega
    subst e'
    exact br_t (nI_le (a := 64) (Nat.le_refl _) (by omega)) hp
  | succ d ih =>
    intro i n e hn
    obtain ⟨m, rfl, hm⟩ := ck_fu hn
    have h1 := ih (i + 1) m (by omega) (by omega)
    refine br_f (nI_ge (b := 64) (by omega) (by omega)) (xk_lackOf H (by omega) ?_)
    refine cz_b (cz_eq (ck_Si ?_) (ck_WS H (by omega))) (fun hf => ?_) (fun hf => ?_)
    · have := ck_LS H (by omega) i; omega
    · rw [ck_cm1 (f := fun s => ck_L p q l h s c) hf] at h1
      exact nm_e (nm_r (nI_1 i) h1)
    · rw [ck_cm2 (f := fun s => ck_L p q l h s c) hf] at h1
      exact nm_r (nI_1 i) h1
theorem xk_leastL {post : Int32 → Prop} {c a : Nat} {p q l h : Nat → Nat} {a1 a2 a3 a4 : Nat → Int32} (H : ck_H 12 c p q l h a1 a2 a3 a4) (ha : a < c) (hp : post (cz_I (ck_least p q l h c a 64))) : ∀ d i n : Nat, i + d = 64 → d < n → wX_least_46 post (nI a) (nI (p a)) (nI (q a)) (nI c) a1 a2 a3 a4 n (cz_I (ck_least p q l h c a i)) (nI i) := by
  have hc := H.1
  obtain ⟨vp, vq, vl, vh, e1, e2, e3, e4⟩ := H.2 a ha
  have hin : vp_in (nI a) 12 := vp_in_nI (by omega) (by omega)
  intro d
  induction d with
  | zero =>
    intro i n e hn
    obtain ⟨m, rfl, hm⟩ := ck_fu hn
    have e' : i = 64 := by omega
    subst e'
    exact br_t (nI_le (a := 64) (Nat.le_refl _) (by omega)) hp
  | succ d ih =>
    intro i n e hn
    obtain ⟨m, rfl, hm⟩ := ck_fu hn
    have h1 := ih (i + 1) m (by omega) (by omega)
    refine br_f (nI_ge (b := 64) (by omega) (by omega)) (xk_crosses (by omega) vp vq ?_)
    cases ex : ck_x i (p a) (q a)
    · rw [show ck_least p q l h c a (i + 1) = ck_least p q l h c a i from ck_mx3 ex] at h1
      exact br_t rfl (nm_r (nI_1 i) h1)
    · refine br_f (by decide) (xk_lackOf H (by omega) ⟨hin, nm_r (e' := cz_I (ck_L p q l h i c + (h a : Int))) ?_ ?_⟩)
      · rw [nI_clamp (by omega), e4, cz_n, cz_add]
      · have hL := fun s => ck_LS H (by omega) s
        refine cz_b (cz_le (ck_Si ?_) (ck_Si ?_)) (fun hf => ?_) (fun hf => ?_)
        · have := hL i; omega
        · have := ck_mxB (g := fun s => ck_x s (p a) (q a)) (f := fun s => ck_L p q l h s c + (h a : Int)) (a0 := (l a : Int)) (b := 5000) i (by omega) (fun s => by have := hL s; omega)
          unfold ck_least; omega
        · rw [show ck_least p q l h c a (i + 1) = ck_least p q l h c a i from ck_mx1 ex hf] at h1
          exact nm_r (nI_1 i) h1
        · rw [show ck_least p q l h c a (i + 1) = ck_L p q l h i c + (h a : Int) from ck_mx2 ex hf] at h1
          exact nm_r (nI_1 i) h1
theorem xk_mostL {post : Int32 → Prop} {c a : Nat} {p q l h : Nat → Nat} {a1 a2 a3 a4 : Nat → Int32} (H : ck_H 12 c p q l h a1 a2 a3 a4) (ha : a < c) (hp : post (cz_I (ck_most p q l h c a 64))) : ∀ d i n : Nat, i + d = 64 → d < n → wX_most_46 post (nI a) (nI (p a)) (nI (q a)) (nI c) a1 a2 a3 a4 n (cz_I (ck_most p q l h c a i)) (nI i) := by
  have hc := H.1
  obtain ⟨vp, vq, vl, vh, e1, e2, e3, e4⟩ := H.2 a ha
  have hin : vp_in (nI a) 12 := vp_in_nI (by omega) (by omega)
  intro d
  induction d with
  | zero =>
    intro i n e hn
    obtain ⟨m, rfl, hm⟩ := ck_fu hn
    have e' : i = 64 := by omega
    subst e'
    exact br_t (nI_le (a := 64) (Nat.le_refl _) (by omega)) hp
  | succ d ih =>
    intro i n e hn
    obtain ⟨m, rfl, hm⟩ := ck_fu hn
    have h1 := ih (i + 1) m (by omega) (by omega)
    refine br_f (nI_ge (b := 64) (by omega) (by omega)) (xk_crosses (by omega) vq vp ?_)
    cases ex : ck_x i (q a) (p a)
    · rw [show ck_most p q l h c a (i + 1) = ck_most p q l h c a i from ck_mn3 ex] at h1
      exact br_t rfl (nm_r (nI_1 i) h1)
    · refine br_f (by decide) ⟨hin, xk_lackOf H (by omega) (nm_r (e' := cz_I ((l a : Int) - ck_L p q l h i c)) ?_ ?_)⟩
      · rw [nI_clamp (by omega), e3, cz_n, cz_sub]
      · have hL := fun s => ck_LS H (by omega) s
        refine cz_b (cz_le (ck_Si ?_) (ck_Si ?_)) (fun hf => ?_) (fun hf => ?_)
        · have := ck_mnB (g := fun s => ck_x s (q a) (p a)) (f := fun s => (l a : Int) - ck_L p q l h s c) (a0 := (h a : Int)) (b := 5000) i (by omega) (fun s => by have := hL s; omega)
          unfold ck_most; omega
        · have := hL i; omega
        · rw [show ck_most p q l h c a (i + 1) = ck_most p q l h c a i from ck_mn1 ex hf] at h1
          exact nm_r (nI_1 i) h1
        · rw [show ck_most p q l h c a (i + 1) = (l a : Int) - ck_L p q l h i c from ck_mn2 ex hf] at h1
          exact nm_r (nI_1 i) h1
theorem xk_roomL {post : Int32 → Prop} {c s t : Nat} {p q l h : Nat → Nat} {a1 a2 a3 a4 : Nat → Int32} (H : ck_H 12 c p q l h a1 a2 a3 a4) (vs : s < 6) (vt : t < 6) (hp : post (cz_I (ck_room p q l h c s t 64))) : ∀ d i n : Nat, i + d = 64 → d < n → wX_roomFrom_12 post (nI s) (nI t) (nI c) a1 a2 a3 a4 n (cz_I (ck_room p q l h c s t i)) (nI i) := by
  intro d
  induction d with
  | zero =>
    intro i n e hn
    obtain ⟨m, rfl, hm⟩ := ck_fu hn
    have e' : i = 64 := by omega
    subst e'
    exact br_t (nI_le (a := 64) (Nat.le_refl _) (by omega)) hp
  | succ d ih =>
    intro i n e hn
    obtain ⟨m, rfl, hm⟩ := ck_fu hn
    have h1 := ih (i + 1) m (by omega) (by omega)
    refine br_f (nI_ge (b := 64) (by omega) (by omega)) (xk_crosses (by omega) vs vt ?_)
    cases ex : ck_x i s t
    · rw [show ck_room p q l h c s t (i + 1) = ck_room p q l h c s t i from ck_mn3 ex] at h1
      exact br_t rfl (nm_r (nI_1 i) h1)
    · refine br_f (by decide) (xk_lackOf H (by omega) (nm_r (cz_neg _) ?_))
      have hL := fun s => ck_LS H (by omega) s
      refine cz_b (cz_le (ck_Si ?_) (ck_Si ?_)) (fun hf => ?_) (fun hf => ?_)
      · have h0 := hL (2 ^ s)
        have := ck_mnB (g := fun i => ck_x i s t) (f := fun i => -ck_L p q l h i c) (a0 := -ck_L p q l h (2 ^ s) c) (b := 5000) i (by omega) (fun s => by have := hL s; omega)
        unfold ck_room; omega
      · have := hL i; omega
      · rw [show ck_room p q l h c s t (i + 1) = ck_room p q l h c s t i from ck_mn1 ex hf] at h1
        exact nm_r (nI_1 i) h1
      · rw [show ck_room p q l h c s t (i + 1) = -ck_L p q l h i c from ck_mn2 ex hf] at h1
        exact nm_r (nI_1 i) h1
theorem xk_room {post : Int32 → Prop} {c s t : Nat} {p q l h : Nat → Nat} {a1 a2 a3 a4 : Nat → Int32} (H : ck_H 12 c p q l h a1 a2 a3 a4) (vs : s < 6) (vt : t < 6) (hp : post (cz_I (ck_room p q l h c s t 64))) : wpX_roomFrom post (nI c, a1, a2, a3, a4) (nI s) (nI t) := by
  have h1 := xk_roomL H vs vt hp 64 0 65 (by omega) (by omega)
  rw [nI_0] at h1
  unfold wpX_roomFrom
  dsimp only
  rw [ck_one s vs]
  exact xk_lackOf H (ck_onelt s vs) (nm_r (cz_neg _) ⟨65, h1⟩)
theorem xk_52 {post : Int32 → Prop} {J3 : Int32 → Prop} {x1 x2 x3 f : Int32} {a1 a2 a3 a4 : Nat → Int32} {i : Nat} {z : Int} (hz : cz_S z) (h1 : z ≤ 0 → J3 (nI (i + 1))) (h2 : ¬ z ≤ 0 → post 0) : wX_isPossibleWith_52 post J3 x1 x2 x3 (nI i) (cz_I z) f a1 a2 a3 a4 := by
  unfold wX_isPossibleWith_52
  exact cz_b (cz_le0 hz) (fun h => nm_r (nI_1 i) (h1 h)) h2
theorem xk_35 {post : Int32 → Prop} {J3 : Int32 → Prop} {f : Int32} {a1 a2 a3 a4 : Nat → Int32} {i s t m : Nat} {z : Int} (hi : i < 64) (vs : s < 6) (vt : t < 6) (hz : cz_S (z - (if ck_x i t s then (m : Int) else 0))) (h1 : z - (if ck_x i t s then (m : Int) else 0) ≤ 0 → J3 (nI (i + 1))) (h2 : ¬ z - (if ck_x i t s then (m : Int) else 0) ≤ 0 → post 0) : wX_isPossibleWith_35 post J3 (nI t) (nI s) (nI m) (nI i) (cz_I z) f a1 a2 a3 a4 := by
  unfold wX_isPossibleWith_35
  refine xk_crosses hi vt vs ?_
  cases ex : ck_x i t s
  · rw [ex] at hz h1 h2
    simp at hz h1 h2
    exact br_t rfl (xk_52 hz h1 (fun h => h2 (by omega)))
  · rw [ex] at hz h1 h2
    simp at hz h1 h2
    refine br_f (by decide) (nm_r (e' := cz_I (z - (m : Int))) ?_ (xk_52 hz (fun h => h1 (by omega)) (fun h => h2 (by omega))))
    rw [cz_n, cz_sub]
theorem xk_possL {post : Int32 → Prop} {c s t m : Nat} {p q l h : Nat → Nat} {a1 a2 a3 a4 : Nat → Int32} (H : ck_H 12 c p q l h a1 a2 a3 a4) (vs : s < 6) (vt : t < 6) (hm : m ≤ 240) (hT : ck_T p q l h c s t m → post 1) (hF : ¬ ck_T p q l h c s t m → post 0) : ∀ d i n : Nat, i + d = 64 → d < n → (∀ j, j < i → ck_L p q l h j c + ck_c j t s m m ≤ 0) → wX_isPossibleWith_3 post (nI t) (nI s) (nI m) (nI c) a1 a2 a3 a4 n (nI i) := by
  intro d
  induction d with
  | zero =>
    intro i n e hn hj
    obtain ⟨k, rfl, hk⟩ := ck_fu hn
    have e' : i = 64 := by omega
    subst e'
    exact br_t (nI_le (a := 64) (Nat.le_refl _) (by omega)) (hT ((ck_T0 p q l h c s t m).mpr hj))
  | succ d ih =>
    intro i n e hn hj
    obtain ⟨k, rfl, hk⟩ := ck_fu hn
    have hL := ck_LS H (by omega) i
    have hok : ck_L p q l h i c + ck_c i t s m m ≤ 0 → wX_isPossibleWith_3 post (nI t) (nI s) (nI m) (nI c) a1 a2 a3 a4 k (nI (i + 1)) := by
      intro hi
      refine ih (i + 1) k (by omega) (by omega) (fun j hlt => ?_)
      by_cases ej : j = i
      · rw [ej]; exact hi
      · exact hj j (by omega)
    have hno : ¬ ck_L p q l h i c + ck_c i t s m m ≤ 0 → post 0 := by
      intro hi
      exact hF (fun T => hi ((ck_T0 p q l h c s t m).mp T i (by omega)))
    have hb : cz_S (ck_L p q l h i c + ck_c i t s m m) := by
      refine ck_Si ?_
      unfold ck_c
      cases ck_x i s t <;> cases ck_x i t s <;> simp <;> omega
    refine br_f (nI_ge (b := 64) (by omega) (by omega)) (xk_lackOf H (by omega) (xk_crosses (by omega) vs vt ?_))
    cases ex : ck_x i s t
    · have e1 : ck_L p q l h i c - (if ck_x i t s then (m : Int) else 0) = ck_L p q l h i c + ck_c i t s m m := by
        unfold ck_c; rw [ex]; simp; omega
      refine br_t rfl (xk_35 (by omega) vs vt ?_ ?_ ?_)
      · rw [e1]; exact hb
      · rw [e1]; exact hok
      · rw [e1]; exact hno
    · have e1 : ck_L p q l h i c + (m : Int) - (if ck_x i t s then (m : Int) else 0) = ck_L p q l h i c + ck_c i t s m m := by
        unfold ck_c; rw [ex]; simp; omega
      refine br_f (by decide) (nm_r (e' := cz_I (ck_L p q l h i c + (m : Int))) ?_ (xk_35 (by omega) vs vt ?_ ?_ ?_))
      · rw [cz_n, cz_add]
      · rw [e1]; exact hb
      · rw [e1]; exact hok
      · rw [e1]; exact hno
theorem xk_poss {post : Int32 → Prop} {c s t m : Nat} {p q l h : Nat → Nat} {a1 a2 a3 a4 : Nat → Int32} (H : ck_H 12 c p q l h a1 a2 a3 a4) (vs : s < 6) (vt : t < 6) (hm : m ≤ 240) (hT : ck_T p q l h c s t m → post 1) (hF : ¬ ck_T p q l h c s t m → post 0) : wpX_isPossibleWith post (nI c, a1, a2, a3, a4) (nI t) (nI s) (nI m) := by
  have h1 := xk_possL H vs vt hm hT hF 64 0 65 (by omega) (by omega) (fun j hj => by omega)
  rw [nI_0] at h1
  exact ⟨65, h1⟩
end
section
/-! the reference -/
theorem yk_73 {post : Int32 → Prop} {J5 : Int32 → Int32 → Prop} {x1 x2 f : Int32} {c i : Nat} {p q l h : Nat → Nat} {a1 a2 a3 a4 : Nat → Int32} (H : ck_H 13 c p q l h a1 a2 a3 a4) (hi : i < c) (b1 b2 : Bool) (z : Int) (hJ : J5 (cz_I (z - (if b1 && !b2 then (h i : Int) else 0))) (nI (i + 1))) : wY_lackOf_73 post J5 x1 x2 (cz_I z) (nI i) (ck_B b1) (ck_B b2) f a1 a2 a3 a4 := by
  have hc := H.1
  obtain ⟨_, _, _, _, _, _, _, e4⟩ := H.2 i hi
  unfold wY_lackOf_73
  cases b1
  · refine br_t rfl (nm_r (nI_1 i) ?_)
    simpa using hJ
  · refine br_f (by decide) ?_
    cases b2
    · refine br_t rfl ⟨vp_in_nI (by omega) (by omega), nm_r (e' := cz_I (z - (h i : Int))) ?_ (nm_r (nI_1 i) ?_)⟩
      · rw [nI_clamp (by omega), e4, cz_n, cz_sub]
      · simpa using hJ
    · refine br_f (by decide) (nm_r (nI_1 i) ?_)
      simpa using hJ
theorem yk_51 {post : Int32 → Prop} {J5 : Int32 → Int32 → Prop} {x1 x2 f : Int32} {c i : Nat} {p q l h : Nat → Nat} {a1 a2 a3 a4 : Nat → Int32} (H : ck_H 13 c p q l h a1 a2 a3 a4) (hi : i < c) (b1 b2 : Bool) (z : Int) (hJ : J5 (cz_I (z + (if b2 && !b1 then (l i : Int) else 0) - (if b1 && !b2 then (h i : Int) else 0))) (nI (i + 1))) : wY_lackOf_51 post J5 x1 x2 (cz_I z) (nI i) (ck_B b1) (ck_B b2) f a1 a2 a3 a4 := by
  have hc := H.1
  obtain ⟨_, _, _, _, _, _, e3, _⟩ := H.2 i hi
  unfold wY_lackOf_51
  cases b2
  · refine br_t rfl (yk_73 H hi b1 false z ?_)
    simpa using hJ
  · refine br_f (by decide) ?_
    cases b1
    · refine br_t rfl ⟨vp_in_nI (by omega) (by omega), nm_r (e' := cz_I (z + (l i : Int))) ?_ (yk_73 H hi false true _ ?_)⟩
      · rw [nI_clamp (by omega), e3, cz_n, cz_add]
      · simpa using hJ
    · refine br_f (by decide) (yk_73 H hi true true z ?_)
      simpa using hJ
theorem yk_30 {post : Int32 → Prop} {J5 : Int32 → Int32 → Prop} {x2 f : Int32} {c i s : Nat} {p q l h : Nat → Nat} {a1 a2 a3 a4 : Nat → Int32} (H : ck_H 13 c p q l h a1 a2 a3 a4) (hs : s < 64) (hi : i < c) (b1 : Bool) (z : Int) (hJ : J5 (cz_I (z + (if s.testBit (q i) && !b1 then (l i : Int) else 0) - (if b1 && !s.testBit (q i) then (h i : Int) else 0))) (nI (i + 1))) : wY_lackOf_30 post J5 (nI s) x2 (cz_I z) (nI i) (ck_B b1) f a1 a2 a3 a4 := by
  have hc := H.1
  obtain ⟨vp, vq, _, _, e1, e2, _, _⟩ := H.2 i hi
  unfold wY_lackOf_30
  refine ⟨vp_in_nI (by omega) (by omega), ?_⟩
  rw [nI_clamp (by omega), e2, ck_bit s hs _ vq]
  have h1 := yk_51 (post := post) (x1 := nI s) (x2 := x2) (f := f) H hi b1 (s.testBit (q i)) z hJ
  cases hb : s.testBit (q i)
  · rw [hb] at h1; exact br_t rfl h1
  · rw [hb] at h1; exact br_f (by decide) h1
theorem yk_lackL {post : Int32 → Prop} {f : Int32} {c s : Nat} {p q l h : Nat → Nat} {a1 a2 a3 a4 : Nat → Int32} (H : ck_H 13 c p q l h a1 a2 a3 a4) (hs : s < 64) (hp : post (cz_I (ck_L p q l h s c))) : ∀ d i n : Nat, i + d = c → d < n → wY_lackOf_5 post (nI s) (nI c) f a1 a2 a3 a4 n (cz_I (ck_L p q l h s i)) (nI i) := by
  have hc := H.1
  intro d
  induction d with
  | zero =>
    intro i n e hn
    obtain ⟨m, rfl, hm⟩ := ck_fu hn
    cases e
    exact br_t (nI_le (Nat.le_refl _) (by omega)) hp
  | succ d ih =>
    intro i n e hn
    obtain ⟨m, rfl, hm⟩ := ck_fu hn
    have hi : i < c := by omega
    obtain ⟨vp, vq, _, _, e1, e2, e3, e4⟩ := H.2 i hi
    have hin : vp_in (nI i) 13 := vp_in_nI (by omega) (by omega)
    have h1 := ih (i + 1) m (by omega) (by omega)
    refine br_f (nI_ge hi (by omega)) ⟨hin, ?_⟩
    rw [nI_clamp (by omega), e1, ck_bit s hs _ vp]
    have h2 := yk_30 (post := post) (J5 := wY_lackOf_5 post (nI s) (nI c) f a1 a2 a3 a4 m) (x2 := nI c) (f := f) H hs hi (s.testBit (p i)) (ck_L p q l h s i) (by
      rw [show ck_L p q l h s i + (if s.testBit (q i) && !s.testBit (p i) then (l i : Int) else 0) - (if s.testBit (p i) && !s.testBit (q i) then (h i : Int) else 0) = ck_L p q l h s (i + 1) from Int.add_sub_assoc _ _ _]
      exact h1)
    cases hb : s.testBit (p i)
    · rw [hb] at h2; exact br_t rfl h2
    · rw [hb] at h2; exact br_f (by decide) h2
theorem yk_lackOf {post : Int32 → Prop} {f : Int32} {c s : Nat} {p q l h : Nat → Nat} {a1 a2 a3 a4 : Nat → Int32} (H : ck_H 13 c p q l h a1 a2 a3 a4) (hs : s < 64) (hp : post (cz_I (ck_L p q l h s c))) : wpY_lackOf post (f, a1, a2, a3, a4) (nI s) (nI c) := by
  have h1 := yk_lackL (f := f) H hs hp c 0 (c + 1) (by omega) (by omega)
  rw [nI_0, show cz_I (ck_L p q l h s 0) = 0 from cz_0] at h1
  exact ⟨c + 1, h1⟩
theorem yk_worstL {post : Int32 → Prop} {f : Int32} {c : Nat} {p q l h : Nat → Nat} {a1 a2 a3 a4 : Nat → Int32} (H : ck_H 13 c p q l h a1 a2 a3 a4) (hp : post (cz_I (ck_W p q l h c))) : ∀ d i n : Nat, i + d = 64 → d < n → wY_worst_4 post (nI c) f a1 a2 a3 a4 n (cz_I (ck_mx (fun _ => true) (fun s => ck_L p q l h s c) 0 i)) (nI i) := by
  intro d
  induction d with
  | zero =>
    intro i n e hn
    obtain ⟨m, rfl, hm⟩ := ck_fu hn
    have e' : i = 64 := by omega
    subst e'
    exact br_t (nI_le (a := 64) (Nat.le_refl _) (by omega)) hp
  | succ d ih =>
    intro i n e hn
    obtain ⟨m, rfl, hm⟩ := ck_fu hn
    have h1 := ih (i + 1) m (by omega) (by omega)
    refine br_f (nI_ge (b := 64) (by omega) (by omega)) (yk_lackOf H (by omega) ?_)
    refine cz_b (cz_le (ck_Si ?_) (ck_Si ?_)) (fun hf => ?_) (fun hf => ?_)
    · have := ck_LS H (by omega) i; omega
    · have := ck_mxB (g := fun _ => true) (f := fun s => ck_L p q l h s c) (a0 := 0) (b := 3120) i (by omega) (fun s => ck_LS H (by omega) s); omega
    · rw [ck_mx1 (g := fun _ => true) rfl hf] at h1
      exact nm_r (nI_1 i) h1
    · rw [ck_mx2 (g := fun _ => true) rfl hf] at h1
      exact nm_r (nI_1 i) h1
theorem yk_worst {post : Int32 → Prop} {f : Int32} {c : Nat} {p q l h : Nat → Nat} {a1 a2 a3 a4 : Nat → Int32} (H : ck_H 13 c p q l h a1 a2 a3 a4) (hp : post (cz_I (ck_W p q l h c))) : wpY_worst post (f, a1, a2, a3, a4) (nI c) := by
  have h1 := yk_worstL (f := f) H hp 64 0 65 (by omega) (by omega)
  rw [nI_0, show cz_I (ck_mx (fun _ => true) (fun s => ck_L p q l h s c) 0 0) = 0 from cz_0] at h1
  exact ⟨65, h1⟩
theorem yk_lsL {post : Int32 → Prop} {c : Nat} {p q l h : Nat → Nat} {a1 a2 a3 a4 : Nat → Int32} (H : ck_H 13 c p q l h a1 a2 a3 a4) (hp : post (ck_cm (fun s => ck_L p q l h s c) (ck_W p q l h c) 64)) : ∀ d i n : Nat, i + d = 64 → d < n → wY_lackingSet_14 post (cz_I (ck_W p q l h c)) (nI c) a1 a2 a3 a4 n (ck_cm (fun s => ck_L p q l h s c) (ck_W p q l h c) i) (nI i) := by
  intro d
  induction d with
  | zero =>
    intro i n e hn
    obtain ⟨m, rfl, hm⟩ := ck_fu hn
    have e' : i = 64 := by omega
    subst e'
    exact br_t (nI_le (a := 64) (Nat.le_refl _) (by omega)) hp
  | succ d ih =>
    intro i n e hn
    obtain ⟨m, rfl, hm⟩ := ck_fu hn
    have h1 := ih (i + 1) m (by omega) (by omega)
    refine br_f (nI_ge (b := 64) (by omega) (by omega)) (yk_lackOf H (by omega) ?_)
    refine cz_b (cz_eq (ck_Si ?_) (ck_WS H (by omega))) (fun hf => ?_) (fun hf => ?_)
    · have := ck_LS H (by omega) i; omega
    · rw [ck_cm1 (f := fun s => ck_L p q l h s c) hf] at h1
      exact nm_e (nm_r (nI_1 i) h1)
    · rw [ck_cm2 (f := fun s => ck_L p q l h s c) hf] at h1
      exact nm_r (nI_1 i) h1
/-! one arc fixed, and put back -/
theorem ck_back (a : Nat → Int32) (k : Nat) (x : Int32) : upd (upd a k x) k (a k) = a := by
  funext j
  by_cases e : j = k
  · rw [e, pk_us]
  · rw [pk_un e, pk_un e]
theorem ck_twice (a : Nat → Int32) (k : Nat) (x y : Int32) : upd (upd a k x) k y = upd a k y := by
  funext j
  by_cases e : j = k
  · rw [e, pk_us, pk_us]
  · rw [pk_un e, pk_un e, pk_un e]
theorem ck_Hfix {N c a x : Nat} {p q l h : Nat → Nat} {a1 a2 a3 a4 : Nat → Int32} (H : ck_H N c p q l h a1 a2 a3 a4) (hx : x ≤ 240) : ck_H N c p q (ck_u l a x) (ck_u h a x) a1 a2 (upd a3 a (nI x)) (upd a4 a (nI x)) := by
  refine ⟨H.1, fun j hj => ?_⟩
  obtain ⟨h1, h2, h3, h4, e1, e2, e3, e4⟩ := H.2 j hj
  by_cases e : j = a
  · subst e
    rw [ck_us, ck_us, pk_us, pk_us]
    exact ⟨h1, h2, hx, hx, e1, e2, rfl, rfl⟩
  · rw [ck_un _ _ e, ck_un _ _ e, pk_un e, pk_un e]
    exact ⟨h1, h2, h3, h4, e1, e2, e3, e4⟩
theorem ck_Hput {N c a b x : Nat} {p q l h : Nat → Nat} {a1 a2 a3 a4 : Nat → Int32} (H : ck_H N c p q l h a1 a2 a3 a4) (ha : a < 6) (hb : b < 6) (hx : x ≤ 240) : ck_H (N + 1) (c + 1) (ck_u p c a) (ck_u q c b) (ck_u l c x) (ck_u h c x) (upd a1 c (nI a)) (upd a2 c (nI b)) (upd a3 c (nI x)) (upd a4 c (nI x)) := by
  refine ⟨by have := H.1; omega, fun j hj => ?_⟩
  by_cases e : j = c
  · subst e
    rw [ck_us, ck_us, ck_us, ck_us, pk_us, pk_us, pk_us, pk_us]
    exact ⟨ha, hb, hx, hx, rfl, rfl, rfl, rfl⟩
  · obtain ⟨h1, h2, h3, h4, e1, e2, e3, e4⟩ := H.2 j (by omega)
    rw [ck_un _ _ e, ck_un _ _ e, ck_un _ _ e, ck_un _ _ e, pk_un e, pk_un e, pk_un e, pk_un e]
    exact ⟨h1, h2, h3, h4, e1, e2, e3, e4⟩
theorem yk_allows {post : Int32 → SY → Prop} {c a x : Nat} {p q l h : Nat → Nat} {a1 a2 a3 a4 : Nat → Int32} (H : ck_H 13 c p q l h a1 a2 a3 a4) (ha : a < c) (hx : x ≤ 240) (h1 : ck_W p q (ck_u l a x) (ck_u h a x) c = 0 → post 1 (nI c, a1, a2, a3, a4)) (h0 : ¬ ck_W p q (ck_u l a x) (ck_u h a x) c = 0 → post 0 (nI c, a1, a2, a3, a4)) : wpY_allows post (nI c, a1, a2, a3, a4) (nI a) (nI x) := by
  have hc := H.1
  have hin : vp_in (nI a) 13 := vp_in_nI (by omega) (by omega)
  have hcl : (nI a).toNatClampNeg = a := nI_clamp (by omega)
  have H' := ck_Hfix (a := a) H hx
  unfold wpY_allows
  dsimp only
  rw [hcl]
  refine ⟨hin, nm_e ⟨hin, nm_e ⟨hin, nm_e ⟨hin, nm_e (yk_worst H' (cz_b (cz_eq0 (ck_WS H' (by omega))) (fun hw => ?_) (fun hw => ?_)))⟩⟩⟩⟩
  · unfold wY_allows_45
    rw [hcl]
    refine ⟨hin, nm_r (ck_back _ _ _) ⟨hin, nm_r (ck_back _ _ _) ⟨by decide, h1 hw⟩⟩⟩
  · unfold wY_allows_45
    rw [hcl]
    refine ⟨hin, nm_r (ck_back _ _ _) ⟨hin, nm_r (ck_back _ _ _) ⟨by decide, h0 hw⟩⟩⟩
end
section
theorem yk_leastA {post : Int32 → SY → Prop} {c a m : Nat} {p q l h : Nat → Nat} {a1 a2 a3 a4 : Nat → Int32} (H : ck_H 13 c p q l h a1 a2 a3 a4) (ha : a < c) (hm : m ≤ h a) (hW : ck_W p q (ck_u l a m) (ck_u h a m) c = 0) (hn : ∀ y, l a ≤ y → y < m → ck_W p q (ck_u l a y) (ck_u h a y) c ≠ 0) (hp : post (nI m) (nI c, a1, a2, a3, a4)) : ∀ d x n : Nat, x + d = m → l a ≤ x → d < n → wY_least_18 post (nI a) n (nI x) (nI c) a1 a2 a3 a4 := by
  have hc := H.1
  obtain ⟨_, _, vl, vh, _, _, e3, e4⟩ := H.2 a ha
  have hin : vp_in (nI a) 13 := vp_in_nI (by omega) (by omega)
  have hcl : (nI a).toNatClampNeg = a := nI_clamp (by omega)
  intro d
  induction d with
  | zero =>
    intro x n e hx hn'
    obtain ⟨k, rfl, hk⟩ := ck_fu hn'
    cases e
    refine ⟨hin, br_f ?_ (yk_allows H ha (by omega) (fun _ => br_f (by decide) hp) (fun z => absurd hW z))⟩
    rw [hcl, e4]; exact nI_nlt hm (by omega)
  | succ d ih =>
    intro x n e hx hn'
    obtain ⟨k, rfl, hk⟩ := ck_fu hn'
    refine ⟨hin, br_f ?_ (yk_allows H ha (by omega) (fun z => absurd z (hn x hx (by omega))) (fun _ => br_t rfl (nm_r (nI_1 x) (ih (x + 1) k (by omega) (by omega) (by omega)))))⟩
    rw [hcl, e4]; exact nI_nlt (by omega) (by omega)
theorem yk_leastB {post : Int32 → SY → Prop} {c a : Nat} {p q l h : Nat → Nat} {a1 a2 a3 a4 : Nat → Int32} (H : ck_H 13 c p q l h a1 a2 a3 a4) (ha : a < c) (hn : ∀ y, l a ≤ y → y ≤ h a → ck_W p q (ck_u l a y) (ck_u h a y) c ≠ 0) (hp : post (-5) (nI c, a1, a2, a3, a4)) : ∀ d x n : Nat, x + d = h a + 1 → l a ≤ x → d < n → wY_least_18 post (nI a) n (nI x) (nI c) a1 a2 a3 a4 := by
  have hc := H.1
  obtain ⟨_, _, vl, vh, _, _, e3, e4⟩ := H.2 a ha
  have hin : vp_in (nI a) 13 := vp_in_nI (by omega) (by omega)
  have hcl : (nI a).toNatClampNeg = a := nI_clamp (by omega)
  intro d
  induction d with
  | zero =>
    intro x n e hx hn'
    obtain ⟨k, rfl, hk⟩ := ck_fu hn'
    refine ⟨hin, br_t ?_ hp⟩
    rw [hcl, e4]; exact nI_lt (by omega) (by omega)
  | succ d ih =>
    intro x n e hx hn'
    obtain ⟨k, rfl, hk⟩ := ck_fu hn'
    refine ⟨hin, br_f ?_ (yk_allows H ha (by omega) (fun z => absurd z (hn x hx (by omega))) (fun _ => br_t rfl (nm_r (nI_1 x) (ih (x + 1) k (by omega) (by omega) (by omega)))))⟩
    rw [hcl, e4]; exact nI_nlt (by omega) (by omega)
theorem yk_mostA {post : Int32 → SY → Prop} {c a m : Nat} {p q l h : Nat → Nat} {a1 a2 a3 a4 : Nat → Int32} (H : ck_H 13 c p q l h a1 a2 a3 a4) (ha : a < c) (hm : l a ≤ m) (hW : ck_W p q (ck_u l a m) (ck_u h a m) c = 0) (hn : ∀ y, m < y → y ≤ h a → ck_W p q (ck_u l a y) (ck_u h a y) c ≠ 0) (hp : post (nI m) (nI c, a1, a2, a3, a4)) : ∀ d n : Nat, m + d ≤ h a → d < n → wY_most_18 post (nI a) n (nI (m + d)) (nI c) a1 a2 a3 a4 := by
  have hc := H.1
  obtain ⟨_, _, vl, vh, _, _, e3, e4⟩ := H.2 a ha
  have hin : vp_in (nI a) 13 := vp_in_nI (by omega) (by omega)
  have hcl : (nI a).toNatClampNeg = a := nI_clamp (by omega)
  intro d
  induction d with
  | zero =>
    intro n hx hn'
    obtain ⟨k, rfl, hk⟩ := ck_fu hn'
    refine ⟨hin, br_f ?_ (yk_allows H ha (by omega) (fun _ => br_f (by decide) hp) (fun z => absurd hW z))⟩
    rw [hcl, e3]; exact nI_nlt hm (by omega)
  | succ d ih =>
    intro n hx hn'
    obtain ⟨k, rfl, hk⟩ := ck_fu hn'
    refine ⟨hin, br_f ?_ (yk_allows H ha (by omega) (fun z => absurd z (hn _ (by omega) hx)) (fun _ => br_t rfl (nm_r (pk_m1 (m + d)) (ih k (by omega) (by omega)))))⟩
    rw [hcl, e3]; exact nI_nlt (by omega) (by omega)
theorem yk_mostB {post : Int32 → SY → Prop} {c a : Nat} {p q l h : Nat → Nat} {a1 a2 a3 a4 : Nat → Int32} (H : ck_H 13 c p q l h a1 a2 a3 a4) (ha : a < c) (hn : ∀ y, l a ≤ y → y ≤ h a → ck_W p q (ck_u l a y) (ck_u h a y) c ≠ 0) (hp : post (-5) (nI c, a1, a2, a3, a4)) : ∀ d n : Nat, l a + d ≤ h a + 1 → d < n → wY_most_18 post (nI a) n (nI (l a + d) + (-1)) (nI c) a1 a2 a3 a4 := by
  have hc := H.1
  obtain ⟨_, _, vl, vh, _, _, e3, e4⟩ := H.2 a ha
  have hin : vp_in (nI a) 13 := vp_in_nI (by omega) (by omega)
  have hcl : (nI a).toNatClampNeg = a := nI_clamp (by omega)
  intro d
  induction d with
  | zero =>
    intro n hx hn'
    obtain ⟨k, rfl, hk⟩ := ck_fu hn'
    refine ⟨hin, br_t ?_ hp⟩
    rw [hcl, e3, Nat.add_zero, show (-1 : Int32) = cz_I (-1) from by decide, cz_n, cz_add]
    exact (cz_lt (ck_Si (by omega)) (ck_Si (by omega))).mpr (by omega)
  | succ d ih =>
    intro n hx hn'
    obtain ⟨k, rfl, hk⟩ := ck_fu hn'
    rw [show l a + (d + 1) = l a + d + 1 from rfl, pk_m1]
    refine ⟨hin, br_f ?_ (yk_allows H ha (by omega) (fun z => absurd z (hn _ (by omega) (by omega))) (fun _ => br_t rfl (nm_e (ih k (by omega) (by omega)))))⟩
    rw [hcl, e3]; exact nI_nlt (by omega) (by omega)
theorem yk_place {post : SY → Prop} {c : Nat} {x0 x1 x2 x3 : Int32} {a1 a2 a3 a4 : Nat → Int32} (hc : c < 13) (hp : post (nI c, upd a1 c x0, upd a2 c x1, upd a3 c x2, upd a4 c x3)) : wpY_place post (nI c, a1, a2, a3, a4) x0 x1 x2 x3 := by
  have hin : vp_in (nI c) 13 := vp_in_nI (by omega) (by omega)
  unfold wpY_place
  dsimp only
  rw [nI_clamp (by omega)]
  exact ⟨hin, nm_e ⟨hin, nm_e ⟨hin, nm_e ⟨hin, nm_e hp⟩⟩⟩⟩
theorem ck_Hkeep {N c : Nat} {x1 x2 x3 x4 : Int32} {p q l h : Nat → Nat} {a1 a2 a3 a4 : Nat → Int32} (H : ck_H N c p q l h a1 a2 a3 a4) : ck_H N c p q l h (upd a1 c x1) (upd a2 c x2) (upd a3 c x3) (upd a4 c x4) := by
  refine ⟨H.1, fun j hj => ?_⟩
  have e : j ≠ c := by omega
  rw [pk_un e, pk_un e, pk_un e, pk_un e]
  exact H.2 j hj
/-- one turn of through's loop -/
theorem yk_thr1 {post : Int32 → SY → Prop} {c s t x n : Nat} {p q l h : Nat → Nat} {a1 a2 a3 a4 : Nat → Int32} (H : ck_H 12 c p q l h a1 a2 a3 a4) (vs : s < 6) (vt : t < 6) (hx : x ≤ 240)
    (h1 : ck_T p q l h c s t x → ∀ b1 b2 b3 b4, ck_H 12 c p q l h b1 b2 b3 b4 → post (nI x) (nI c, b1, b2, b3, b4))
    (h2 : ¬ ck_T p q l h c s t x → ∀ b1 b2 b3 b4, ck_H 12 c p q l h b1 b2 b3 b4 → wY_through_27 post (nI s) (nI t) n (nI x + (-1)) (nI c) b1 b2 b3 b4) :
    wY_through_27 post (nI s) (nI t) (n + 1) (nI x) (nI c) a1 a2 a3 a4 := by
  have hc := H.1
  have H' := ck_Hput (x := x) H vt vs hx
  refine br_f (nI_pos (by omega)) (yk_place (by omega) ?_)
  dsimp only
  rw [nI_1 c]
  refine yk_worst H' (cz_b (cz_eq0 (ck_WS H' (by omega))) (fun z => ?_) (fun z => ?_))
  · exact h1 z _ _ _ _ (ck_Hkeep H)
  · exact nm_e (h2 z _ _ _ _ (ck_Hkeep H))
theorem yk_thrA {post : Int32 → SY → Prop} {c s t m : Nat} {p q l h : Nat → Nat} (vs : s < 6) (vt : t < 6) (hT : ck_T p q l h c s t m) (hn : ∀ y, m < y → ¬ ck_T p q l h c s t y) (hp : ∀ b1 b2 b3 b4, ck_H 12 c p q l h b1 b2 b3 b4 → post (nI m) (nI c, b1, b2, b3, b4)) : ∀ d n : Nat, m + d ≤ 240 → d < n → ∀ a1 a2 a3 a4, ck_H 12 c p q l h a1 a2 a3 a4 → wY_through_27 post (nI s) (nI t) n (nI (m + d)) (nI c) a1 a2 a3 a4 := by
  intro d
  induction d with
  | zero =>
    intro n hx hn' a1 a2 a3 a4 H
    obtain ⟨k, rfl, hk⟩ := ck_fu hn'
    exact yk_thr1 H vs vt hx (fun _ => hp) (fun z => absurd hT z)
  | succ d ih =>
    intro n hx hn' a1 a2 a3 a4 H
    obtain ⟨k, rfl, hk⟩ := ck_fu hn'
    refine yk_thr1 H vs vt hx (fun z => absurd z (hn _ (by omega))) (fun _ b1 b2 b3 b4 H2 => ?_)
    rw [show m + (d + 1) = m + d + 1 from rfl, pk_m1]
    exact ih k (by omega) (by omega) b1 b2 b3 b4 H2
theorem yk_thrB {post : Int32 → SY → Prop} {c s t : Nat} {p q l h : Nat → Nat} (vs : s < 6) (vt : t < 6) (hn : ∀ y, ¬ ck_T p q l h c s t y) (hp : ∀ b1 b2 b3 b4, ck_H 12 c p q l h b1 b2 b3 b4 → post (-5) (nI c, b1, b2, b3, b4)) : ∀ x n : Nat, x ≤ 241 → x < n → ∀ a1 a2 a3 a4, ck_H 12 c p q l h a1 a2 a3 a4 → wY_through_27 post (nI s) (nI t) n (nI x + (-1)) (nI c) a1 a2 a3 a4 := by
  intro x
  induction x with
  | zero =>
    intro n hx hn' a1 a2 a3 a4 H
    obtain ⟨k, rfl, hk⟩ := ck_fu hn'
    exact br_t (by decide) (hp a1 a2 a3 a4 H)
  | succ x ih =>
    intro n hx hn' a1 a2 a3 a4 H
    obtain ⟨k, rfl, hk⟩ := ck_fu hn'
    rw [pk_m1]
    exact yk_thr1 H vs vt (by omega) (fun z => absurd z (hn _)) (fun _ b1 b2 b3 b4 H2 => ih k (by omega) (by omega) b1 b2 b3 b4 H2)
end
section
/-! the relation: both sides show the same arcs below the count -/
def cr_R (c : Nat) (p q l h : Nat → Nat) (a1 a2 a3 a4 b1 b2 b3 b4 : Nat → Int32) : Prop := (∀ j, j < c → l j ≤ h j ∧ h j ≤ 20) ∧ ck_H 12 c p q l h a1 a2 a3 a4 ∧ ck_H 12 c p q l h b1 b2 b3 b4
def i_Rel (k : Nat) (u : SX) (v : SY) : Prop := ∃ (c : Nat) (p q l h : Nat → Nat) (a1 a2 a3 a4 b1 b2 b3 b4 : Nat → Int32), cr_R c p q l h a1 a2 a3 a4 b1 b2 b3 b4 ∧ u = (nI c, a1, a2, a3, a4) ∧ v = (nI c, b1, b2, b3, b4)
theorem cr_mk {k c : Nat} {p q l h : Nat → Nat} {a1 a2 a3 a4 b1 b2 b3 b4 : Nat → Int32} (R : cr_R c p q l h a1 a2 a3 a4 b1 b2 b3 b4) : i_Rel k (nI c, a1, a2, a3, a4) (nI c, b1, b2, b3, b4) := ⟨c, p, q, l, h, a1, a2, a3, a4, b1, b2, b3, b4, R, rfl, rfl⟩
theorem i_up {k : Nat} {u : SX} {v : SY} (h : i_Rel k u v) : i_Rel (k + 4) u v := h
theorem i_vc0 : wpX_init (fun u => wpY_init (fun v => i_Rel 0 u v)) := by
  have H : ck_H 12 0 (fun _ => 0) (fun _ => 0) (fun _ => 0) (fun _ => 0) (fun _ => 0) (fun _ => 0) (fun _ => 0) (fun _ => 0) := ⟨by omega, fun j hj => by omega⟩
  exact cr_mk (k := 0) (c := 0) ⟨fun j hj => by omega, H, H⟩
theorem ck_H13 {c : Nat} {p q l h : Nat → Nat} {a1 a2 a3 a4 : Nat → Int32} (H : ck_H 12 c p q l h a1 a2 a3 a4) : ck_H 13 c p q l h a1 a2 a3 a4 := ⟨by have := H.1; omega, H.2⟩
theorem ck_Hset {N c a x y : Nat} {p q l h : Nat → Nat} {a1 a2 a3 a4 : Nat → Int32} (H : ck_H N c p q l h a1 a2 a3 a4) (hx : x ≤ 240) (hy : y ≤ 240) : ck_H N c p q (ck_u l a x) (ck_u h a y) a1 a2 (upd a3 a (nI x)) (upd a4 a (nI y)) := by
  refine ⟨H.1, fun j hj => ?_⟩
  obtain ⟨h1, h2, h3, h4, e1, e2, e3, e4⟩ := H.2 j hj
  by_cases e : j = a
  · subst e
    rw [ck_us, ck_us, pk_us, pk_us]
    exact ⟨h1, h2, hx, hy, e1, e2, rfl, rfl⟩
  · rw [ck_un _ _ e, ck_un _ _ e, pk_un e, pk_un e]
    exact ⟨h1, h2, h3, h4, e1, e2, e3, e4⟩
theorem ck_Hrev {N c a : Nat} {p q l h : Nat → Nat} {a1 a2 a3 a4 : Nat → Int32} (H : ck_H N c p q l h a1 a2 a3 a4) (ha : a < c) : ck_H N c (ck_u p a (q a)) (ck_u q a (p a)) l h (upd a1 a (a2 a)) (upd a2 a (a1 a)) a3 a4 := by
  refine ⟨H.1, fun j hj => ?_⟩
  obtain ⟨h1, h2, h3, h4, e1, e2, e3, e4⟩ := H.2 j hj
  by_cases e : j = a
  · subst e
    rw [ck_us, ck_us, pk_us, pk_us]
    exact ⟨h2, h1, h3, h4, e2, e1, e3, e4⟩
  · rw [ck_un _ _ e, ck_un _ _ e, pk_un e, pk_un e]
    exact ⟨h1, h2, h3, h4, e1, e2, e3, e4⟩
theorem ck_Hnew {N c a b x y : Nat} {p q l h : Nat → Nat} {a1 a2 a3 a4 : Nat → Int32} (H : ck_H N c p q l h a1 a2 a3 a4) (hc : c < N) (ha : a < 6) (hb : b < 6) (hx : x ≤ 240) (hy : y ≤ 240) : ck_H N (c + 1) (ck_u p c a) (ck_u q c b) (ck_u l c x) (ck_u h c y) (upd a1 c (nI a)) (upd a2 c (nI b)) (upd a3 c (nI x)) (upd a4 c (nI y)) := by
  refine ⟨hc, fun j hj => ?_⟩
  by_cases e : j = c
  · subst e
    rw [ck_us, ck_us, ck_us, ck_us, pk_us, pk_us, pk_us, pk_us]
    exact ⟨ha, hb, hx, hy, rfl, rfl, rfl, rfl⟩
  · obtain ⟨h1, h2, h3, h4, e1, e2, e3, e4⟩ := H.2 j (by omega)
    rw [ck_un _ _ e, ck_un _ _ e, ck_un _ _ e, ck_un _ _ e, pk_un e, pk_un e, pk_un e, pk_un e]
    exact ⟨h1, h2, h3, h4, e1, e2, e3, e4⟩
theorem ck_Hless {N c d : Nat} {p q l h : Nat → Nat} {a1 a2 a3 a4 : Nat → Int32} (H : ck_H N c p q l h a1 a2 a3 a4) (hd : d ≤ c) : ck_H N d p q l h a1 a2 a3 a4 := ⟨by have := H.1; omega, fun j hj => H.2 j (by omega)⟩
/-! vertices and arcs named in a call -/
theorem cr_v6 {v : Int32} (h0 : ¬ v < 0) (h6 : ¬ 6 ≤ v) : ∃ j, j < 6 ∧ v = nI j := by
  obtain ⟨j, hj, rfl⟩ := nI_of h0
  refine ⟨j, ?_, rfl⟩
  by_cases e : j < 6
  · exact e
  · exact absurd (nI_le (a := 6) (by omega) hj) h6
theorem cr_v5 {v : Int32} (h0 : ¬ v < 0) (h5 : ¬ 5 < v) : ∃ j, j < 6 ∧ v = nI j := by
  obtain ⟨j, hj, rfl⟩ := nI_of h0
  refine ⟨j, ?_, rfl⟩
  by_cases e : j < 6
  · exact e
  · exact absurd (nI_lt (a := 5) (by omega) hj) h5
theorem cr_ne {s t : Nat} (hs : s < 6) (ht : t < 6) (h : s ≠ t) : ¬ nI s = nI t := fun e => h ((nI_eq (by omega) (by omega)).mp e)
theorem xk_two {post : Int32 → Prop} {u : SX} {s t : Nat} (hs : s < 6) (ht : t < 6) (h : s ≠ t) (hp : post 1) : wpX_areTwoVertices post u (nI s) (nI t) := by
  obtain ⟨c, a1, a2, a3, a4⟩ := u
  unfold wpX_areTwoVertices
  dsimp only
  exact br_f (nI_pos (by omega)) (br_f (nI_ge (b := 6) hs (by omega)) (br_f (nI_pos (by omega)) (br_f (nI_ge (b := 6) ht (by omega)) (br_f (cr_ne hs ht h) hp))))
theorem yk_vert {post : Int32 → Prop} {u : SY} {s : Nat} (hs : s < 6) (hp : post 1) : wpY_isVertex post u (nI s) := by
  obtain ⟨c, a1, a2, a3, a4⟩ := u
  unfold wpY_isVertex
  dsimp only
  exact br_f (nI_pos (by omega)) (br_f (nI_nlt (a := 5) (by omega) (by omega)) hp)
theorem cr_two (v1 v2 : Int32) : (∃ s t : Nat, s < 6 ∧ t < 6 ∧ s ≠ t ∧ v1 = nI s ∧ v2 = nI t) ∨ ((∀ (post : Int32 → Prop) (u : SX), post 0 → wpX_areTwoVertices post u v1 v2) ∧ (∀ (A B : Prop) (u : SY), A → wpY_isVertex (fun r => (r = 0 → A) ∧ (¬ r = 0 → wpY_isVertex (fun r' => (r' = 0 → A) ∧ (¬ r' = 0 → ((v1 = v2 → A) ∧ (¬ v1 = v2 → B)))) u v2)) u v1)) := by
  by_cases g : ∃ s t : Nat, s < 6 ∧ t < 6 ∧ s ≠ t ∧ v1 = nI s ∧ v2 = nI t
  · exact Or.inl g
  · have mk : (∃ j, j < 6 ∧ v1 = nI j) → (∃ j, j < 6 ∧ v2 = nI j) → ¬ v1 = v2 → False := by
      intro ⟨s, hs, e1⟩ ⟨t, ht, e2⟩ hne
      exact g ⟨s, t, hs, ht, fun e => hne (by rw [e1, e2, e]), e1, e2⟩
    refine Or.inr ⟨fun post u hp => ?_, fun A B u hA => ?_⟩
    · obtain ⟨c, a1, a2, a3, a4⟩ := u
      unfold wpX_areTwoVertices
      dsimp only
      exact br_c (fun _ => hp) (fun h1 => br_c (fun _ => hp) (fun h2 => br_c (fun _ => hp) (fun h3 => br_c (fun _ => hp) (fun h4 => br_c (fun _ => hp) (fun h5 => (mk (cr_v6 h1 h2) (cr_v6 h3 h4) h5).elim)))))
    · obtain ⟨c, a1, a2, a3, a4⟩ := u
      unfold wpY_isVertex
      dsimp only
      exact br_c (fun _ => br_t rfl hA) (fun h1 => br_c (fun _ => br_t rfl hA) (fun h2 => br_f (by decide) (br_c (fun _ => br_t rfl hA) (fun h3 => br_c (fun _ => br_t rfl hA) (fun h4 => br_f (by decide) (br_c (fun _ => hA) (fun h5 => (mk (cr_v5 h1 h2) (cr_v5 h3 h4) h5).elim)))))))
theorem xk_isArc {post : Int32 → Prop} {c a : Nat} {a1 a2 a3 a4 : Nat → Int32} (hc : c ≤ 12) (ha : a < c) (hp : post 1) : wpX_isArc post (nI c, a1, a2, a3, a4) (nI a) :=
  br_f (nI_pos (by omega)) (br_f (nI_ge ha (by omega)) hp)
theorem yk_isArc {post : Int32 → Prop} {c a : Nat} {a1 a2 a3 a4 : Nat → Int32} (hc : c ≤ 12) (ha : a < c) (hp : post 1) : wpY_isArc post (nI c, a1, a2, a3, a4) (nI a) :=
  br_f (nI_pos (by omega)) (br_f (nI_ge ha (by omega)) hp)
theorem cr_arc {c : Nat} (hc : c ≤ 12) (v : Int32) : (∃ a, a < c ∧ v = nI a) ∨ ((∀ (post : Int32 → Prop) (a1 a2 a3 a4 : Nat → Int32), post 0 → wpX_isArc post (nI c, a1, a2, a3, a4) v) ∧ (∀ (post : Int32 → Prop) (a1 a2 a3 a4 : Nat → Int32), post 0 → wpY_isArc post (nI c, a1, a2, a3, a4) v)) := by
  by_cases g : ∃ a, a < c ∧ v = nI a
  · exact Or.inl g
  · have mk : ¬ v < 0 → ¬ nI c ≤ v → False := by
      intro h0 h1
      obtain ⟨j, hj, rfl⟩ := nI_of h0
      by_cases e : j < c
      · exact g ⟨j, e, rfl⟩
      · exact h1 (nI_le (by omega) hj)
    exact Or.inr ⟨fun post a1 a2 a3 a4 hp => br_c (fun _ => hp) (fun h1 => br_c (fun _ => hp) (fun h2 => (mk h1 h2).elim)), fun post a1 a2 a3 a4 hp => br_c (fun _ => hp) (fun h1 => br_c (fun _ => hp) (fun h2 => (mk h1 h2).elim))⟩
/-! the methods that change the network -/
theorem i_vc_arc {k : Nat} {u : SX} {v : SY} (I : i_Rel k u v) (hk : k + 4 ≤ 2048) (v1 : Int32) (v2 : Int32) (v3 : Int32) : wpX_arc (fun r u' => wpY_arc (fun r' v' => r' = r ∧ i_Rel (k + 4) u' v') v v1 v2 v3) u v1 v2 v3 := by
  obtain ⟨c, p, q, l, h, a1, a2, a3, a4, b1, b2, b3, b4, R, rfl, rfl⟩ := I
  have R0 : i_Rel (k + 4) (nI c, a1, a2, a3, a4) (nI c, b1, b2, b3, b4) := cr_mk R
  obtain ⟨hv, HX, HY⟩ := R
  have hc := HX.1
  unfold wpX_arc wpY_arc
  dsimp only
  rcases cr_two v1 v2 with ⟨s, t, hs, ht, hne, rfl, rfl⟩ | ⟨bX, bY⟩
  · refine xk_two hs ht hne (br_f (by decide) (br_c (fun h1 => ?_) (fun h1 => br_c (fun h2 => ?_) (fun h2 => ?_))))
    · exact yk_vert hs (br_f (by decide) (yk_vert ht (br_f (by decide) (br_f (cr_ne hs ht hne) (br_t h1 ⟨rfl, R0⟩)))))
    · by_cases hf : c < 12
      · obtain ⟨x, hx, rfl⟩ := nI_of2 (M := 20) (n := 20) (by decide) h1 h2
        have hin : vp_in (nI c) 12 := vp_in_nI (by omega) (by omega)
        rw [nI_clamp (by omega)]
        refine br_t (nI_lt (b := 12) hf (by omega)) ⟨hin, nm_e ⟨hin, nm_e ⟨hin, nm_e ⟨hin, nm_e (nm_r (nI_1 c) ?_)⟩⟩⟩⟩
        refine yk_vert hs (br_f (by decide) (yk_vert ht (br_f (by decide) (br_f (cr_ne hs ht hne) (br_f h1 (br_t h2 (br_f ?_ (yk_place (by omega) (nm_r (nI_1 c) ⟨nI_pred c, cr_mk (p := ck_u p c s) (q := ck_u q c t) (l := ck_u l c 0) (h := ck_u h c x) ⟨?_, ck_Hnew HX hf hs ht (by omega) (by omega), ck_Hnew HY hf hs ht (by omega) (by omega)⟩⟩)))))))))
        · exact fun e => absurd ((nI_eq (a := c) (b := 12) (by omega) (by omega)).mp e) (by omega)
        · intro j hj
          by_cases e : j = c
          · subst e; rw [ck_us, ck_us]; omega
          · rw [ck_un _ _ e, ck_un _ _ e]; exact hv j (by omega)
      · have e : c = 12 := by omega
        subst e
        exact br_f (nI_nlt (b := 12) (Nat.le_refl _) (by omega)) (yk_vert hs (br_f (by decide) (yk_vert ht (br_f (by decide) (br_f (cr_ne hs ht hne) (br_f h1 (br_t h2 (br_t rfl ⟨rfl, R0⟩))))))))
    · exact yk_vert hs (br_f (by decide) (yk_vert ht (br_f (by decide) (br_f (cr_ne hs ht hne) (br_f h1 (br_f h2 ⟨rfl, R0⟩))))))
  · exact bX _ _ (br_t rfl (bY _ _ _ ⟨rfl, R0⟩))
theorem i_vc_bounds {k : Nat} {u : SX} {v : SY} (I : i_Rel k u v) (hk : k + 4 ≤ 2048) (v1 : Int32) (v2 : Int32) (v3 : Int32) : wpX_bounds (fun r u' => wpY_bounds (fun r' v' => r' = r ∧ i_Rel (k + 4) u' v') v v1 v2 v3) u v1 v2 v3 := by
  obtain ⟨c, p, q, l, h, a1, a2, a3, a4, b1, b2, b3, b4, R, rfl, rfl⟩ := I
  have R0 : i_Rel (k + 4) (nI c, a1, a2, a3, a4) (nI c, b1, b2, b3, b4) := cr_mk R
  obtain ⟨hv, HX, HY⟩ := R
  have hc := HX.1
  unfold wpX_bounds wpY_bounds
  dsimp only
  rcases cr_arc hc v1 with ⟨a, ha, rfl⟩ | ⟨bX, bY⟩
  · refine xk_isArc hc ha (br_f (by decide) (br_c (fun h1 => ?_) (fun h1 => br_c (fun h2 => ?_) (fun h2 => br_c (fun h3 => ?_) (fun h3 => ?_)))))
    · exact yk_isArc hc ha (br_f (by decide) (br_t h1 ⟨rfl, R0⟩))
    · exact yk_isArc hc ha (br_f (by decide) (br_f h1 (br_t h2 ⟨rfl, R0⟩)))
    · have h0 : ¬ v3 < 0 := by
        obtain ⟨x, hx, rfl⟩ := nI_of h1
        exact fun z => h2 (Int32.lt_of_lt_of_le z (nI_pos' hx))
      obtain ⟨x, hx, rfl⟩ := nI_of h1
      obtain ⟨y, hy, rfl⟩ := nI_of2 (M := 20) (n := 20) (by decide) h0 h3
      have hxy : x ≤ y := by
        by_cases e : x ≤ y
        · exact e
        · exact absurd (nI_lt (by omega) hx) h2
      have inX : vp_in (nI a) 12 := vp_in_nI (by omega) (by omega)
      have inY : vp_in (nI a) 13 := vp_in_nI (by omega) (by omega)
      rw [nI_clamp (n := a) (by omega)]
      refine ⟨inX, nm_e ⟨inX, nm_e (yk_isArc hc ha (br_f (by decide) (br_f h1 (br_f h2 (br_t h3 ⟨inY, nm_e ⟨inY, nm_e ⟨rfl, cr_mk (l := ck_u l a x) (h := ck_u h a y) ⟨?_, ck_Hset HX (by omega) (by omega), ck_Hset HY (by omega) (by omega)⟩⟩⟩⟩)))))⟩⟩
      intro j hj
      by_cases e : j = a
      · subst e; rw [ck_us, ck_us]; omega
      · rw [ck_un _ _ e, ck_un _ _ e]; exact hv j hj
    · exact yk_isArc hc ha (br_f (by decide) (br_f h1 (br_f h2 (br_f h3 ⟨rfl, R0⟩))))
  · exact bX _ _ _ _ _ (br_t rfl (bY _ _ _ _ _ (br_t rfl ⟨rfl, R0⟩)))
theorem i_vc_reverse {k : Nat} {u : SX} {v : SY} (I : i_Rel k u v) (hk : k + 4 ≤ 2048) (v1 : Int32) : wpX_reverse (fun r u' => wpY_reverse (fun r' v' => r' = r ∧ i_Rel (k + 4) u' v') v v1) u v1 := by
  obtain ⟨c, p, q, l, h, a1, a2, a3, a4, b1, b2, b3, b4, R, rfl, rfl⟩ := I
  have R0 : i_Rel (k + 4) (nI c, a1, a2, a3, a4) (nI c, b1, b2, b3, b4) := cr_mk R
  obtain ⟨hv, HX, HY⟩ := R
  have hc := HX.1
  unfold wpX_reverse wpY_reverse
  dsimp only
  rcases cr_arc hc v1 with ⟨a, ha, rfl⟩ | ⟨bX, bY⟩
  · have inX : vp_in (nI a) 12 := vp_in_nI (by omega) (by omega)
    have inY : vp_in (nI a) 13 := vp_in_nI (by omega) (by omega)
    rw [nI_clamp (n := a) (by omega)]
    exact xk_isArc hc ha (br_f (by decide) ⟨inX, nm_e ⟨inX, inX, nm_e ⟨inX, nm_e (yk_isArc hc ha (br_f (by decide) ⟨inY, nm_e ⟨inY, inY, nm_e ⟨inY, nm_e ⟨rfl, cr_mk ⟨hv, ck_Hrev HX ha, ck_Hrev HY ha⟩⟩⟩⟩⟩))⟩⟩⟩)
  · exact bX _ _ _ _ _ (br_t rfl (bY _ _ _ _ _ (br_t rfl ⟨rfl, R0⟩)))
theorem i_vc_dropLast {k : Nat} {u : SX} {v : SY} (I : i_Rel k u v) (hk : k + 4 ≤ 2048) : wpX_dropLast (fun r u' => wpY_dropLast (fun r' v' => r' = r ∧ i_Rel (k + 4) u' v') v) u := by
  obtain ⟨c, p, q, l, h, a1, a2, a3, a4, b1, b2, b3, b4, R, rfl, rfl⟩ := I
  have R0 : i_Rel (k + 4) (nI c, a1, a2, a3, a4) (nI c, b1, b2, b3, b4) := cr_mk R
  obtain ⟨hv, HX, HY⟩ := R
  have hc := HX.1
  unfold wpX_dropLast wpY_dropLast
  dsimp only
  cases c with
  | zero => exact br_f (by decide) (br_t rfl ⟨rfl, R0⟩)
  | succ c => exact br_t (nI_lt (a := 0) (by omega) (by omega)) (nm_r (nI_pred c) (br_f (nI_ne0 (by omega) (by omega)) (nm_r (nI_pred c) ⟨rfl, cr_mk ⟨fun j hj => hv j (by omega), ck_Hless HX (by omega), ck_Hless HY (by omega)⟩⟩)))
/-! the questions -/
theorem i_vc_possible {k : Nat} {u : SX} {v : SY} (I : i_Rel k u v) (hk : k + 4 ≤ 2048) : wpX_possible (fun r => wpY_possible (fun r' => r' = r ∧ i_Rel (k + 4) u v) v) u := by
  obtain ⟨c, p, q, l, h, a1, a2, a3, a4, b1, b2, b3, b4, R, rfl, rfl⟩ := I
  have R0 : i_Rel (k + 4) (nI c, a1, a2, a3, a4) (nI c, b1, b2, b3, b4) := cr_mk R
  obtain ⟨hv, HX, HY⟩ := R
  have HZ := ck_H13 HY
  have hw := cz_eq0 (ck_WS HZ (by omega))
  unfold wpX_possible wpY_possible
  dsimp only
  exact xk_greatest HX (cz_b hw (fun e => yk_worst HZ (cz_b hw (fun _ => ⟨rfl, R0⟩) (fun z => absurd e z))) (fun e => yk_worst HZ (cz_b hw (fun z => absurd z e) (fun _ => ⟨rfl, R0⟩))))
theorem i_vc_lack {k : Nat} {u : SX} {v : SY} (I : i_Rel k u v) (hk : k + 4 ≤ 2048) : wpX_lack (fun r => wpY_lack (fun r' => r' = r ∧ i_Rel (k + 4) u v) v) u := by
  obtain ⟨c, p, q, l, h, a1, a2, a3, a4, b1, b2, b3, b4, R, rfl, rfl⟩ := I
  have R0 : i_Rel (k + 4) (nI c, a1, a2, a3, a4) (nI c, b1, b2, b3, b4) := cr_mk R
  obtain ⟨hv, HX, HY⟩ := R
  unfold wpX_lack wpY_lack
  dsimp only
  exact xk_greatest HX (yk_worst (ck_H13 HY) ⟨rfl, R0⟩)
theorem i_vc_lackingSet {k : Nat} {u : SX} {v : SY} (I : i_Rel k u v) (hk : k + 4 ≤ 2048) : wpX_lackingSet (fun r => wpY_lackingSet (fun r' => r' = r ∧ i_Rel (k + 4) u v) v) u := by
  obtain ⟨c, p, q, l, h, a1, a2, a3, a4, b1, b2, b3, b4, R, rfl, rfl⟩ := I
  have R0 : i_Rel (k + 4) (nI c, a1, a2, a3, a4) (nI c, b1, b2, b3, b4) := cr_mk R
  obtain ⟨hv, HX, HY⟩ := R
  unfold wpX_lackingSet wpY_lackingSet
  dsimp only
  refine xk_greatest HX ⟨65, ?_⟩
  refine xk_lsL HX ?_ 64 0 65 (by omega) (by omega)
  refine yk_worst (ck_H13 HY) ⟨65, ?_⟩
  exact yk_lsL (ck_H13 HY) ⟨rfl, R0⟩ 64 0 65 (by omega) (by omega)
theorem i_vc_arcs {k : Nat} {u : SX} {v : SY} (I : i_Rel k u v) (hk : k + 4 ≤ 2048) : wpX_arcs (fun r => wpY_arcs (fun r' => r' = r ∧ i_Rel (k + 4) u v) v) u := by
  obtain ⟨c, p, q, l, h, a1, a2, a3, a4, b1, b2, b3, b4, R, rfl, rfl⟩ := I
  exact ⟨rfl, cr_mk R⟩
theorem i_vc_least {k : Nat} {u : SX} {v : SY} (I : i_Rel k u v) (hk : k + 4 ≤ 2048) (v1 : Int32) : wpX_least (fun r => wpY_least (fun r' v' => r' = r ∧ i_Rel (k + 4) u v') v v1) u v1 := by
  obtain ⟨c, p, q, l, h, a1, a2, a3, a4, b1, b2, b3, b4, R, rfl, rfl⟩ := I
  have R0 : i_Rel (k + 4) (nI c, a1, a2, a3, a4) (nI c, b1, b2, b3, b4) := cr_mk R
  obtain ⟨hv, HX, HY⟩ := R
  have hc := HX.1
  have HZ := ck_H13 HY
  unfold wpX_least wpY_least
  dsimp only
  rcases cr_arc hc v1 with ⟨a, ha, rfl⟩ | ⟨bX, bY⟩
  · have inX : vp_in (nI a) 12 := vp_in_nI (by omega) (by omega)
    have inY : vp_in (nI a) 13 := vp_in_nI (by omega) (by omega)
    obtain ⟨_, _, _, _, e1, e2, e3, e4⟩ := HX.2 a ha
    obtain ⟨_, _, _, _, f1, f2, f3, f4⟩ := HY.2 a ha
    have hla := hv a ha
    rw [nI_clamp (n := a) (by omega)]
    refine xk_isArc hc ha (br_f (by decide) (xk_greatest HX (cz_b (cz_eq0 (ck_WS HX (by omega))) (fun hW => ?_) (fun hW => ?_))))
    · obtain ⟨m, em, hm1, hm2, hok, hno⟩ := ck_least_p p q l h c a ha (fun j hj => (hv j hj).1) hW
      refine ⟨inX, nm_r e1 ⟨inX, nm_r e2 ⟨inX, nm_r (e3.trans (cz_n _)) ⟨65, ?_⟩⟩⟩⟩
      refine xk_leastL HX ha ?_ 64 0 65 (by omega) (by omega)
      rw [em, ← cz_n]
      refine yk_isArc hc ha (br_f (by decide) ⟨inY, nm_r f3 ⟨m - l a + 1, ?_⟩⟩)
      exact yk_leastA HZ ha hm2 hok hno ⟨rfl, R0⟩ (m - l a) (l a) (m - l a + 1) (by omega) (by omega) (by omega)
    · refine yk_isArc hc ha (br_f (by decide) ⟨inY, nm_r f3 ⟨h a + 1 - l a + 1, ?_⟩⟩)
      exact yk_leastB HZ ha (fun y h1 h2 => ck_never p q l h c a y ha hW h1 h2) ⟨rfl, R0⟩ (h a + 1 - l a) (l a) _ (by omega) (by omega) (by omega)
  · exact bX _ _ _ _ _ (br_t rfl (bY _ _ _ _ _ (br_t rfl ⟨rfl, R0⟩)))
theorem i_vc_most {k : Nat} {u : SX} {v : SY} (I : i_Rel k u v) (hk : k + 4 ≤ 2048) (v1 : Int32) : wpX_most (fun r => wpY_most (fun r' v' => r' = r ∧ i_Rel (k + 4) u v') v v1) u v1 := by
  obtain ⟨c, p, q, l, h, a1, a2, a3, a4, b1, b2, b3, b4, R, rfl, rfl⟩ := I
  have R0 : i_Rel (k + 4) (nI c, a1, a2, a3, a4) (nI c, b1, b2, b3, b4) := cr_mk R
  obtain ⟨hv, HX, HY⟩ := R
  have hc := HX.1
  have HZ := ck_H13 HY
  unfold wpX_most wpY_most
  dsimp only
  rcases cr_arc hc v1 with ⟨a, ha, rfl⟩ | ⟨bX, bY⟩
  · have inX : vp_in (nI a) 12 := vp_in_nI (by omega) (by omega)
    have inY : vp_in (nI a) 13 := vp_in_nI (by omega) (by omega)
    obtain ⟨_, _, _, _, e1, e2, e3, e4⟩ := HX.2 a ha
    obtain ⟨_, _, _, _, f1, f2, f3, f4⟩ := HY.2 a ha
    have hla := hv a ha
    rw [nI_clamp (n := a) (by omega)]
    refine xk_isArc hc ha (br_f (by decide) (xk_greatest HX (cz_b (cz_eq0 (ck_WS HX (by omega))) (fun hW => ?_) (fun hW => ?_))))
    · obtain ⟨m, em, hm1, hm2, hok, hno⟩ := ck_most_p p q l h c a ha (fun j hj => (hv j hj).1) hW
      refine ⟨inX, nm_r e1 ⟨inX, nm_r e2 ⟨inX, nm_r (e4.trans (cz_n _)) ⟨65, ?_⟩⟩⟩⟩
      refine xk_mostL HX ha ?_ 64 0 65 (by omega) (by omega)
      rw [em, ← cz_n]
      refine yk_isArc hc ha (br_f (by decide) ⟨inY, nm_r (e' := nI (m + (h a - m))) ?_ ⟨h a - m + 1, ?_⟩⟩)
      · rw [f4]; exact congrArg nI (by omega)
      · exact yk_mostA HZ ha hm1 hok hno ⟨rfl, R0⟩ (h a - m) (h a - m + 1) (by omega) (by omega)
    · refine yk_isArc hc ha (br_f (by decide) ⟨inY, nm_r (e' := nI (l a + (h a + 1 - l a)) + (-1)) ?_ ⟨h a + 1 - l a + 1, ?_⟩⟩)
      · rw [f4, show l a + (h a + 1 - l a) = h a + 1 from by omega, pk_m1]
      · exact yk_mostB HZ ha (fun y h1 h2 => ck_never p q l h c a y ha hW h1 h2) ⟨rfl, R0⟩ (h a + 1 - l a) _ (by omega) (by omega)
  · exact bX _ _ _ _ _ (br_t rfl (bY _ _ _ _ _ (br_t rfl ⟨rfl, R0⟩)))
theorem i_vc_through {k : Nat} {u : SX} {v : SY} (I : i_Rel k u v) (hk : k + 4 ≤ 2048) (v1 : Int32) (v2 : Int32) : wpX_through (fun r => wpY_through (fun r' v' => r' = r ∧ i_Rel (k + 4) u v') v v1 v2) u v1 v2 := by
  obtain ⟨c, p, q, l, h, a1, a2, a3, a4, b1, b2, b3, b4, R, rfl, rfl⟩ := I
  have R0 : i_Rel (k + 4) (nI c, a1, a2, a3, a4) (nI c, b1, b2, b3, b4) := cr_mk R
  obtain ⟨hv, HX, HY⟩ := R
  have hc := HX.1
  have RB : ∀ d1 d2 d3 d4, ck_H 12 c p q l h d1 d2 d3 d4 → i_Rel (k + 4) (nI c, a1, a2, a3, a4) (nI c, d1, d2, d3, d4) := fun d1 d2 d3 d4 HD => cr_mk ⟨hv, HX, HD⟩
  unfold wpX_through wpY_through
  dsimp only
  rcases cr_two v1 v2 with ⟨s, t, hs, ht, hne, rfl, rfl⟩ | ⟨bX, bY⟩
  · have yB : (∀ y, ¬ ck_T p q l h c s t y) → ∃ n, wY_through_27 (fun r' v' => r' = -5 ∧ i_Rel (k + 4) (nI c, a1, a2, a3, a4) v') (nI s) (nI t) n 240 (nI c) b1 b2 b3 b4 := by
      intro hno
      refine ⟨242, ?_⟩
      have := yk_thrB (post := fun r' v' => r' = -5 ∧ i_Rel (k + 4) (nI c, a1, a2, a3, a4) v') hs ht hno (fun d1 d2 d3 d4 HD => ⟨rfl, RB d1 d2 d3 d4 HD⟩) 241 242 (by omega) (by omega) b1 b2 b3 b4 HY
      rw [pk_m1] at this
      exact this
    refine xk_two hs ht hne (br_f (by decide) (xk_room HX hs ht ?_))
    rcases ck_through_p p q l h c s t hs ht hne hc (fun j hj => by have := hv j hj; omega) with ⟨m, hm, er, hbig, hall⟩ | ⟨hneg, hlo, hall⟩
    · rw [er, ← cz_n]
      refine br_f (nI_pos (by omega)) (xk_poss HX hs ht hm (fun hT => br_f (by decide) ?_) (fun hF => br_t rfl ?_))
      · refine yk_vert hs (br_f (by decide) (yk_vert ht (br_f (by decide) (br_f (cr_ne hs ht hne) ⟨240 - m + 1, ?_⟩))))
        have := yk_thrA (post := fun r' v' => r' = nI m ∧ i_Rel (k + 4) (nI c, a1, a2, a3, a4) v') hs ht hT hbig (fun d1 d2 d3 d4 HD => ⟨rfl, RB d1 d2 d3 d4 HD⟩) (240 - m) (240 - m + 1) (by omega) (by omega) b1 b2 b3 b4 HY
        rw [show m + (240 - m) = 240 from by omega] at this
        exact this
      · exact yk_vert hs (br_f (by decide) (yk_vert ht (br_f (by decide) (br_f (cr_ne hs ht hne) (yB (hall hF))))))
    · refine br_t ((cz_lt0 (ck_Si (by omega))).mpr hneg) ?_
      exact yk_vert hs (br_f (by decide) (yk_vert ht (br_f (by decide) (br_f (cr_ne hs ht hne) (yB hall)))))
  · exact bX _ _ (br_t rfl (bY _ _ _ ⟨rfl, R0⟩))
end
