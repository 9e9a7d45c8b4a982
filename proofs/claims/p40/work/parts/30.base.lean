/-! base: small laws of Int32, reads and writes at known objects, calls by their contracts, cells of fresh objects -/
theorem i32_lt {j : Nat} (h : j < 2147483648) : (Int32.ofNat j).toInt = j := by
  rw [Int32.toInt_ofNat']; simp only [Int.bmod, Int32.size]; omega
theorem i32_n {j : Nat} (h : j < 2147483648) : (Int32.ofNat j).toNatClampNeg = j := by
  rw [Int32.toNatClampNeg, i32_lt h]; omega
theorem i32_s (j : Nat) : Int32.ofNat j + 1 = Int32.ofNat (j + 1) := by
  rw [Int32.ofNat_add]; rfl
theorem i32_nn {j : Nat} (h : j < 2147483648) : ¬ Int32.ofNat j < 0 := by
  rw [Int32.lt_iff_toInt_lt, i32_lt h]; simp
theorem i32_le {i j : Nat} (h : i < 2147483648) (h2 : j < 2147483648) : Int32.ofNat i ≤ Int32.ofNat j ↔ i ≤ j := by
  rw [Int32.le_iff_toInt_le, i32_lt h, i32_lt h2]; omega
theorem i32_ltn {i j : Nat} (h : i < 2147483648) (h2 : j < 2147483648) : Int32.ofNat i < Int32.ofNat j ↔ i < j := by
  rw [Int32.lt_iff_toInt_lt, i32_lt h, i32_lt h2]; omega
theorem i32_of {x : Int32} (h : 0 ≤ x) : ∃ j : Nat, x = Int32.ofNat j ∧ j < 2147483648 ∧ x.toNatClampNeg = j := by
  have h1 := Int32.le_iff_toInt_le.mp h
  have h2 := x.toInt_lt
  simp at h1
  refine ⟨x.toInt.toNat, ?_, by omega, rfl⟩
  rw [← Int32.toInt_inj, i32_lt (by omega)]; omega
def fill (m : Nat) (f : Nat → AV) (j : Nat) : List AV := (List.range j).map f ++ List.replicate (m - j) (aP none)
theorem fill_len {m j : Nat} {f : Nat → AV} (h : j ≤ m) : (fill m f j).length = m := by simp [fill]; omega
theorem fill_zero {m : Nat} {f : Nat → AV} : fill m f 0 = List.replicate m (aP none) := by simp [fill]
theorem fill_set {m j : Nat} {f : Nat → AV} (h : j < m) : (fill m f j).set j (f j) = fill m f (j + 1) := by
  unfold fill
  rw [List.set_append_right _ _ (by simp)]
  have : m - j = (m - (j + 1)) + 1 := by omega
  rw [this, List.replicate_succ]
  simp [List.range_succ]
theorem csV {S : List AV → AH → (Option AV → AH → Prop) → Prop} {As : List AV} {h X : AH} {K : AH → Prop} (sp : S As h (kV fun h' => h' = X)) (k : K X) : CS S As h (kV K) := ⟨_, sp, kV.mono fun _ e => e ▸ k⟩
theorem csI {S : List AV → AH → (Option AV → AH → Prop) → Prop} {As : List AV} {h X : AH} {v : Int32} {K : Int32 → AH → Prop} (sp : S As h (kI fun r h' => r = v ∧ h' = X)) (k : K v X) : CS S As h (kI K) := ⟨_, sp, kI.mono fun _ _ e => by obtain ⟨rfl, rfl⟩ := e; exact k⟩
theorem cvI {S : List AV → AH → (Option AV → AH → Prop) → Prop} {a ci : Nat} {vs As : List AV} {h X : AH} {v : Int32} {K : Int32 → AH → Prop} (ha : h[a]? = some (.inr (ci, vs))) (sp : S (aP (some a) :: As) h (kI fun r h' => r = v ∧ h' = X)) (k : K v X) : CV S (some a) ci As h (kI K) := ⟨a, vs, _, rfl, ha, sp, kI.mono fun _ _ e => by obtain ⟨rfl, rfl⟩ := e; exact k⟩
theorem cvP {S : List AV → AH → (Option AV → AH → Prop) → Prop} {a ci : Nat} {vs As : List AV} {h X : AH} {v : Option Nat} {K : Option Nat → AH → Prop} (ha : h[a]? = some (.inr (ci, vs))) (sp : S (aP (some a) :: As) h (kP fun r h' => r = v ∧ h' = X)) (k : K v X) : CV S (some a) ci As h (kP K) := ⟨a, vs, _, rfl, ha, sp, kP.mono fun _ _ e => by obtain ⟨rfl, rfl⟩ := e; exact k⟩
/-- a call by a contract whose post is a condition -/
theorem cvIq {S : List AV → AH → (Option AV → AH → Prop) → Prop} {a ci : Nat} {vs As : List AV} {h : AH} {q K : Int32 → AH → Prop} (ha : h[a]? = some (.inr (ci, vs))) (sp : S (aP (some a) :: As) h (kI q)) (k : ∀ r h', q r h' → K r h') : CV S (some a) ci As h (kI K) := ⟨a, vs, _, rfl, ha, sp, kI.mono k⟩
theorem cvVq {S : List AV → AH → (Option AV → AH → Prop) → Prop} {a ci : Nat} {vs As : List AV} {h : AH} {q K : AH → Prop} (ha : h[a]? = some (.inr (ci, vs))) (sp : S (aP (some a) :: As) h (kV q)) (k : ∀ h', q h' → K h') : CV S (some a) ci As h (kV K) := ⟨a, vs, _, rfl, ha, sp, kV.mono k⟩
theorem csIq {S : List AV → AH → (Option AV → AH → Prop) → Prop} {As : List AV} {h : AH} {q K : Int32 → AH → Prop} (sp : S As h (kI q)) (k : ∀ r h', q r h' → K r h') : CS S As h (kI K) := ⟨_, sp, kI.mono k⟩
theorem rdI_iff {h : AH} {a c k : Nat} {fs : List AV} {K : Int32 → Prop} (H : h[a]? = some (.inr (c, fs))) : rdI h (some a) c k K ↔ ∃ x, fs[k]? = some (aI x) ∧ K x := by
  constructor
  · rintro ⟨a', vs, x, e, h1, h2, h3⟩
    cases e; rw [H] at h1; cases h1; exact ⟨x, h2, h3⟩
  · rintro ⟨x, h2, h3⟩; exact ⟨a, fs, x, rfl, H, h2, h3⟩
theorem rdJ_iff {h : AH} {a c k : Nat} {fs : List AV} {K : Int64 → Prop} (H : h[a]? = some (.inr (c, fs))) : rdJ h (some a) c k K ↔ ∃ x, fs[k]? = some (aJ x) ∧ K x := by
  constructor
  · rintro ⟨a', vs, x, e, h1, h2, h3⟩
    cases e; rw [H] at h1; cases h1; exact ⟨x, h2, h3⟩
  · rintro ⟨x, h2, h3⟩; exact ⟨a, fs, x, rfl, H, h2, h3⟩
theorem rdP_iff {h : AH} {a c k : Nat} {fs : List AV} {K : Option Nat → Prop} (H : h[a]? = some (.inr (c, fs))) : rdP h (some a) c k K ↔ ∃ x, fs[k]? = some (aP x) ∧ K x := by
  constructor
  · rintro ⟨a', vs, x, e, h1, h2, h3⟩
    cases e; rw [H] at h1; cases h1; exact ⟨x, h2, h3⟩
  · rintro ⟨x, h2, h3⟩; exact ⟨a, fs, x, rfl, H, h2, h3⟩
theorem wr_iff {h : AH} {a c k : Nat} {fs : List AV} {v : AV} {K : AH → Prop} (H : h[a]? = some (.inr (c, fs))) : wr h (some a) c k v K ↔ k < fs.length ∧ K (h.set a (.inr (c, fs.set k v))) := by
  constructor
  · rintro ⟨a', vs, e, h1, h2, h3⟩
    cases e; rw [H] at h1; cases h1; exact ⟨h2, h3⟩
  · rintro ⟨h2, h3⟩; exact ⟨a, fs, rfl, H, h2, h3⟩
theorem alenI_iff {h : AH} {a kd : Nat} {xs : List Int32} {K : Int32 → Prop} (H : h[a]? = some (.inl (kd, xs))) : alenI h (some a) kd K ↔ K (Int32.ofNat xs.length) := by
  constructor
  · rintro ⟨a', vs, e, h1, h2⟩
    cases e; rw [H] at h1; cases h1; exact h2
  · intro h2; exact ⟨a, xs, rfl, H, h2⟩
theorem alenP_iff {h : AH} {a kd : Nat} {xs : List AV} {K : Int32 → Prop} (H : h[a]? = some (.inr (kd, xs))) : alenP h (some a) kd K ↔ K (Int32.ofNat xs.length) := by
  constructor
  · rintro ⟨a', vs, e, h1, h2⟩
    cases e; rw [H] at h1; cases h1; exact h2
  · intro h2; exact ⟨a, xs, rfl, H, h2⟩
theorem aldI_of {h : AH} {a kd : Nat} {xs : List Int32} {i x : Int32} {K : Int32 → Prop} (H : h[a]? = some (.inl (kd, xs))) (h0 : ¬ i < 0) (hx : xs[i.toNatClampNeg]? = some x) (k : K x) : aldI h (some a) kd i K := ⟨a, xs, x, rfl, H, h0, hx, k⟩
theorem aldP_of {h : AH} {a kd : Nat} {xs : List AV} {i : Int32} {x : Option Nat} {K : Option Nat → Prop} (H : h[a]? = some (.inr (kd, xs))) (h0 : ¬ i < 0) (hx : xs[i.toNatClampNeg]? = some (aP x)) (k : K x) : aldP h (some a) kd i K := ⟨a, xs, x, rfl, H, h0, hx, k⟩
/-! fresh cells -/
theorem wr_at {h0 rest : AH} {c k : Nat} {vs : List AV} {v : AV} {K : AH → Prop} : wr (h0 ++ .inr (c, vs) :: rest) (some h0.length) c k v K ↔ k < vs.length ∧ K (h0 ++ .inr (c, vs.set k v) :: rest) := by
  rw [wr_iff (fs := vs) (by simp)]
  simp
def shape0 (a : Nat) : AH := [.inr (6, [aP (some (a + 1)), aP (some (a + 2)), aP (some (a + 3)), aI 0, aI 0, aI 0, aI 0, aI 0, aI 0]), .inl (0, List.replicate 4 0), .inl (0, List.replicate 18 0), .inl (0, List.replicate 18 0)]
def poly0 (a : Nat) : AH := [.inr (5, [aP (some (a + 1)), aP (some (a + 2)), aI 0, aI 0, aI 0, aI 0, aI 0, aI 0]), .inl (0, List.replicate 18 0), .inl (0, List.replicate 18 0)]
def text0 (a : Nat) : AH := [.inr (9, [aP (some (a + 1)), aI 0, aI 0, aI 0]), .inl (0, List.replicate 150 0)]
def sr0 (a : Nat) : AH := .inr (7, [aP (some (a + 1)), aP (some (a + 5))]) :: (shape0 (a + 1) ++ poly0 (a + 5))
def lr0 (a : Nat) : AH := [.inr (2, [aP (some (a + 1)), aP (some (a + 2)), aP (some (a + 3)), aI 0]), .inl (0, List.replicate 8 0), .inl (0, List.replicate 8 0), .inl (0, List.replicate 8 0)]
def pair0 (a : Nat) : AH := .inr (3, [aP (some (a + 1)), aP (some (a + 4)), aP (some (a + 7)), aP (some (a + 10))]) :: (poly0 (a + 1) ++ (poly0 (a + 4) ++ (poly0 (a + 7) ++ [.inr (0, [aJ 0, aJ 0])])))
def state0 (a : Nat) (e : Option Nat) : AH := [.inr (8, [aP e, aP (some (a + 1)), aP (some (a + 2)), aP (some (a + 3)), aP (some (a + 4)), aI 0, aI 20, aI 20, aI 0]), .inr (13, List.replicate 4 (aP e)), .inr (13, List.replicate 8 (aP e)), .inl (0, List.replicate 8 0), .inl (0, List.replicate 8 0)]
def places0 (a : Nat) : AH := .inr (4, [aP (some (a + 1)), aP (some (a + 12)), aP (some (a + 15)), aI 0, aI 0, aI 0, aI 0, aI 0, aI 0, aI 0]) :: (pair0 (a + 1) ++ (poly0 (a + 12) ++ (.inr (12, (List.range 72).map fun j => aP (some (a + 16 + 3 * j))) :: (List.range 72).flatMap fun j => poly0 (a + 16 + 3 * j))))
def hist0 (a : Nat) (e : Option Nat) : AH := .inr (1, [aP (some (a + 1)), aI 0]) :: .inr (14, (List.range 6).map fun j => aP (some (a + 2 + 5 * j))) :: (List.range 6).flatMap fun j => state0 (a + 2 + 5 * j) e
