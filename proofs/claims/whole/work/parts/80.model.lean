/-! the reference: its cell, its rows; shapes as blocks of the row of numbers -/
theorem i32_divn {v n : Nat} (hv : v < 2147483648) (hn : n < 2147483648) : Int32.ofNat v / Int32.ofNat n = Int32.ofNat (v / n) := by
  have hd : v / n ≤ v := Nat.div_le_self v n
  rw [← Int32.toInt_inj, Int32.toInt_div, i32_lt hv, i32_lt hn, i32_lt (by omega), ← Int.ofNat_tdiv]
  have := i32_lt (j := v / n) (by omega)
  rw [Int32.toInt_ofNat'] at this; exact this
theorem i32_rem {v n : Nat} (hv : v < 2147483648) (hn : n < 2147483648) : Int32.ofNat v - Int32.ofNat v / Int32.ofNat n * Int32.ofNat n = Int32.ofNat (v % n) := by
  rw [i32_divn hv hn, ← Int32.ofNat_mul, ← Int32.ofNat_sub _ _ (Nat.div_mul_le_self v n)]
  congr 1
  have := Nat.div_add_mod v n
  rw [Nat.mul_comm] at this; omega
theorem ix_slot {j : Nat} : (4 : Int32) + 40 * Int32.ofNat j = Int32.ofNat (4 + 40 * j) := by rw [Int32.ofNat_add, Int32.ofNat_mul]; rfl
theorem ix_item {k : Nat} : (164 : Int32) + 42 * Int32.ofNat k = Int32.ofNat (164 + 42 * k) := by rw [Int32.ofNat_add, Int32.ofNat_mul]; rfl
theorem ix_ix {k : Nat} : (164 : Int32) + 42 * Int32.ofNat k + 40 = Int32.ofNat (204 + 42 * k) := by
  rw [ix_item, show (40 : Int32) = Int32.ofNat 40 from rfl, i32_add]; congr 1; omega
theorem ix_iy {k : Nat} : (164 : Int32) + 42 * Int32.ofNat k + 40 + 1 = Int32.ofNat (205 + 42 * k) := by
  rw [ix_ix, i32_s]; congr 1; omega
theorem ix_v {b p : Nat} : Int32.ofNat b + 1 + Int32.ofNat p = Int32.ofNat (b + 1 + p) := by rw [Int32.ofNat_add, Int32.ofNat_add]; rfl
theorem ix_x {b p v : Nat} : Int32.ofNat b + 4 + 12 * Int32.ofNat p + 2 * Int32.ofNat v = Int32.ofNat (b + 4 + 12 * p + 2 * v) := by
  simp only [Int32.ofNat_add, Int32.ofNat_mul]; rfl
theorem ix_y {b p v : Nat} : Int32.ofNat b + 5 + 12 * Int32.ofNat p + 2 * Int32.ofNat v = Int32.ofNat (b + 5 + 12 * p + 2 * v) := by
  simp only [Int32.ofNat_add, Int32.ofNat_mul]; rfl
/-- scratch: nx ny gapTop gapBelow beginTop beginBelow slideTop slideBelow at isWrong points corners foundX foundY laid -/
abbrev Sc : Type := Int32 × Int32 × Int64 × Int64 × Int64 × Int64 × Int64 × Int64 × Int32 × Int32 × Int32 × Int32 × Int32 × Int32 × Int32
abbrev zT (z : Sc) : Int32 × Int32 × Int32 × Int32 × Int32 × Int32 × Int32 := z.2.2.2.2.2.2.2.2
abbrev mob (ps ty : Int32) (z : Sc) : AE := .inr (11, [aP (some 314), aP (some 315), aI ps, aP (some 316), aI ty, aI z.1, aI z.2.1, aJ z.2.2.1, aJ z.2.2.2.1, aJ z.2.2.2.2.1, aJ z.2.2.2.2.2.1, aJ z.2.2.2.2.2.2.1, aJ z.2.2.2.2.2.2.2.1, aI (zT z).1, aI (zT z).2.1, aI (zT z).2.2.1, aP (some 317), aP (some 318), aI (zT z).2.2.2.1, aP (some 319), aP (some 320), aI (zT z).2.2.2.2.1, aI (zT z).2.2.2.2.2.1, aP (some 321), aI (zT z).2.2.2.2.2.2, aP (some 322)])
abbrev zN (z : Sc) (a b : Int32) : Sc := (a, b, z.2.2)
abbrev zG (z : Sc) (a b : Int64) : Sc := (z.1, z.2.1, a, b, z.2.2.2.2)
abbrev zB (z : Sc) (a b : Int64) : Sc := (z.1, z.2.1, z.2.2.1, z.2.2.2.1, a, b, z.2.2.2.2.2.2)
abbrev zS (z : Sc) (a b : Int64) : Sc := (z.1, z.2.1, z.2.2.1, z.2.2.2.1, z.2.2.2.2.1, z.2.2.2.2.2.1, a, b, zT z)
abbrev zU (z : Sc) (t : Int32 × Int32 × Int32 × Int32 × Int32 × Int32 × Int32) : Sc := (z.1, z.2.1, z.2.2.1, z.2.2.2.1, z.2.2.2.2.1, z.2.2.2.2.2.1, z.2.2.2.2.2.2.1, z.2.2.2.2.2.2.2.1, t)
/-- numbers, past, text, pasts, typed -/
abbrev MK : Type := List Int32 × List Int32 × List Int32 × Int32 × Int32
def Rw (h : AH) (a n : Nat) : Prop := ∃ v, h[a]? = some (.inl (0, v)) ∧ v.length = n
def MoZ (h : AH) (z : Sc) (k : MK) : Prop :=
  h[313]? = some (mob k.2.2.2.1 k.2.2.2.2 z) ∧ (h[314]? = some (.inl (0, k.1)) ∧ k.1.length = 580) ∧ (h[315]? = some (.inl (0, k.2.1)) ∧ k.2.1.length = 3000) ∧ (h[316]? = some (.inl (1, k.2.2.1)) ∧ k.2.2.1.length = 150) ∧ Rw h 317 36 ∧ Rw h 318 36 ∧ Rw h 319 37 ∧ Rw h 320 37 ∧ Rw h 321 90 ∧ Rw h 322 500
def Mo (h : AH) (k : MK) : Prop := ∃ z, MoZ h z k
theorem Rw.fr {h h' : AH} {a n lo hi : Nat} (H : Rw h a n) (f : Fr lo hi h h') (d : a < lo ∨ hi ≤ a) : Rw h' a n := by
  obtain ⟨v, h1, h2⟩ := H
  exact ⟨v, (f.2 _ d).trans h1, h2⟩
theorem MoZ.set {h : AH} {z : Sc} {k : MK} (H : MoZ h z k) (z' : Sc) : MoZ (h.set 313 (mob k.2.2.2.1 k.2.2.2.2 z')) z' k := by
  obtain ⟨h0, h1, h2, h3, h4, h5, h6, h7, h8, h9⟩ := H
  have f : Fr 313 314 h (h.set 313 (mob k.2.2.2.1 k.2.2.2.2 z')) := Fr.set (by omega) (by omega)
  exact ⟨gs h0, ⟨(f.2 _ (by omega)).trans h1.1, h1.2⟩, ⟨(f.2 _ (by omega)).trans h2.1, h2.2⟩, ⟨(f.2 _ (by omega)).trans h3.1, h3.2⟩, h4.fr f (by omega), h5.fr f (by omega), h6.fr f (by omega), h7.fr f (by omega), h8.fr f (by omega), h9.fr f (by omega)⟩
theorem fr313 {h : AH} {x : AE} : Fr 313 314 h (h.set 313 x) := Fr.set (by omega) (by omega)
theorem MoZ.same {h h' : AH} {z : Sc} {k : MK} (H : MoZ h z k) (s : ∀ q, 313 ≤ q → q < 323 → h'[q]? = h[q]?) : MoZ h' z k := by
  obtain ⟨h0, h1, h2, h3, ⟨v4, h4⟩, ⟨v5, h5⟩, ⟨v6, h6⟩, ⟨v7, h7⟩, ⟨v8, h8⟩, ⟨v9, h9⟩⟩ := H
  exact ⟨(s _ (by omega) (by omega)).trans h0, ⟨(s _ (by omega) (by omega)).trans h1.1, h1.2⟩, ⟨(s _ (by omega) (by omega)).trans h2.1, h2.2⟩, ⟨(s _ (by omega) (by omega)).trans h3.1, h3.2⟩, ⟨v4, (s _ (by omega) (by omega)).trans h4.1, h4.2⟩, ⟨v5, (s _ (by omega) (by omega)).trans h5.1, h5.2⟩, ⟨v6, (s _ (by omega) (by omega)).trans h6.1, h6.2⟩, ⟨v7, (s _ (by omega) (by omega)).trans h7.1, h7.2⟩, ⟨v8, (s _ (by omega) (by omega)).trans h8.1, h8.2⟩, ⟨v9, (s _ (by omega) (by omega)).trans h9.1, h9.2⟩⟩
def sA (k : MK) (i : Nat) : Int32 := k.1.getD i 0
/-- a block of the row holds a shape -/
def Blk (k : MK) (b : Nat) (S : SH) : Prop := b + 40 ≤ 580 ∧ S.length ≤ 3 ∧ sA k b = Int32.ofNat S.length ∧ ∀ p, p < S.length → sA k (b + 1 + p) = Int32.ofNat (S.getD p []).length ∧ (1 ≤ (S.getD p []).length ∧ (S.getD p []).length ≤ 6) ∧ ∀ v, v < (S.getD p []).length → (sA k (b + 4 + 12 * p + 2 * v), sA k (b + 5 + 12 * p + 2 * v)) = (S.getD p []).getD v (0, 0)
def vR (P : List PT) (v : Nat) : PT := P.getD (v % P.length) (0, 0)
section MO
variable {E : EV} {h : AH} {z : Sc} {k : MK}
theorem MoZ.ld (H : MoZ h z k) {i : Nat} (hi : i < 580) {K : Int32 → Prop} (c : K (sA k i)) : aldI h (some 314) 0 (Int32.ofNat i) K :=
  aldI_of H.2.1.1 (i32_nn (by omega)) (by rw [i32_n (by omega)]; exact getD_get (by rw [H.2.1.2]; exact hi)) c
def inP (v lo hi : Int32) : Prop := ¬ v < lo ∧ ¬ hi < v
theorem m11_in (v lo hi : Int32) : sX11_in E [aI v, aI lo, aI hi] h (kI fun r h' => r = ifC (inP v lo hi) 1 0 ∧ h' = h) := by
  refine eX11_in ?_
  unfold PX11_in_0
  exact ⟨fun c => ⟨_, rfl, (ifC_neg fun q => q.1 c).symm, rfl⟩, fun c => ⟨fun c2 => ⟨_, rfl, (ifC_neg fun q => q.2 c2).symm, rfl⟩, fun c2 => ⟨_, rfl, (ifC_pos ⟨c, c2⟩).symm, rfl⟩⟩⟩
theorem ifC01 {p : Prop} : (ifC p (1 : Int32) 0 = 0) ∨ (ifC p (1 : Int32) 0 = 1) := by
  by_cases c : p
  · rw [ifC_pos c]; exact Or.inr rfl
  · rw [ifC_neg c]; exact Or.inl rfl
theorem in_slot {x : Int32} : inP x 0 3 ↔ Slt x := by
  unfold inP Slt
  have : ¬ (3 : Int32) < x ↔ ¬ (4 : Int32) ≤ x := by
    rw [Int32.lt_iff_toInt_lt, Int32.le_iff_toInt_le]
    have e3 : (3 : Int32).toInt = 3 := by decide
    have e4 : (4 : Int32).toInt = 4 := by decide
    omega
  rw [this]
theorem m11_isSlot (x : Int32) : sX11_isSlot E [aI x] h (kI fun r h' => r = ifC (Slt x) 1 0 ∧ h' = h) := by
  refine eX11_isSlot ?_
  unfold PX11_isSlot_0
  refine csI (m11_in x 0 3) ⟨ifC01, _, rfl, ?_, rfl⟩
  by_cases c : Slt x
  · rw [ifC_pos c, ifC_pos (in_slot.mpr c)]
  · rw [ifC_neg c, ifC_neg fun q => c (in_slot.mp q)]
def szI (v : Int32) : Int32 := if 0 ≤ v then v else -v
theorem m11_size (v : Int32) : sX11_size E [aI v] h (kI fun r h' => r = szI v ∧ h' = h) := by
  refine eX11_size ?_
  unfold PX11_size_0 szI
  exact ⟨fun c => ⟨_, rfl, by rw [if_pos c], rfl⟩, fun c => ⟨_, rfl, by rw [if_neg c], rfl⟩⟩
theorem m11_slotAt (j : Nat) : sX11_slotAt E [aI (Int32.ofNat j)] h (kI fun r h' => r = Int32.ofNat (4 + 40 * j) ∧ h' = h) := by
  refine eX11_slotAt ?_
  unfold PX11_slotAt_0
  exact ⟨_, rfl, ix_slot, rfl⟩
theorem m11_itemShape (j : Nat) : sX11_itemShape E [aI (Int32.ofNat j)] h (kI fun r h' => r = Int32.ofNat (164 + 42 * j) ∧ h' = h) := by
  refine eX11_itemShape ?_
  unfold PX11_itemShape_0
  exact ⟨_, rfl, ix_item, rfl⟩
theorem m11_itemX (H : MoZ h z k) {j : Nat} (hj : j < 8) : sX11_itemX E [aP (some 313), aI (Int32.ofNat j)] h (kI fun r h' => r = sA k (204 + 42 * j) ∧ h' = h) := by
  refine eX11_itemX ?_
  unfold PX11_itemX_0
  refine (rdP_iff H.1).mpr ⟨_, rfl, ?_⟩
  rw [ix_ix]
  exact H.ld (by omega) ⟨_, rfl, rfl, rfl⟩
theorem m11_itemY (H : MoZ h z k) {j : Nat} (hj : j < 8) : sX11_itemY E [aP (some 313), aI (Int32.ofNat j)] h (kI fun r h' => r = sA k (205 + 42 * j) ∧ h' = h) := by
  refine eX11_itemY ?_
  unfold PX11_itemY_0
  refine (rdP_iff H.1).mpr ⟨_, rfl, ?_⟩
  rw [ix_iy]
  exact H.ld (by omega) ⟨_, rfl, rfl, rfl⟩
theorem m11_pieces (H : MoZ h z k) {b : Nat} {S : SH} (B : Blk k b S) : sX11_pieces E [aP (some 313), aI (Int32.ofNat b)] h (kI fun r h' => r = Int32.ofNat S.length ∧ h' = h) := by
  refine eX11_pieces ?_
  unfold PX11_pieces_0
  exact (rdP_iff H.1).mpr ⟨_, rfl, H.ld (by have := B.1; omega) ⟨_, rfl, B.2.2.1, rfl⟩⟩
theorem m11_vertices (H : MoZ h z k) {b : Nat} {S : SH} (B : Blk k b S) {p : Nat} (hp : p < S.length) : sX11_vertices E [aP (some 313), aI (Int32.ofNat b), aI (Int32.ofNat p)] h (kI fun r h' => r = Int32.ofNat (S.getD p []).length ∧ h' = h) := by
  refine eX11_vertices ?_
  unfold PX11_vertices_0
  refine (rdP_iff H.1).mpr ⟨_, rfl, ?_⟩
  rw [ix_v]
  exact H.ld (by have := B.1; have := B.2.1; omega) ⟨_, rfl, (B.2.2.2 p hp).1, rfl⟩
theorem m11_xOf (H : MoZ h z k) {b : Nat} {S : SH} (B : Blk k b S) {p : Nat} (hp : p < S.length) {v : Nat} (hv : v < 1000) : sX11_xOf E [aP (some 313), aI (Int32.ofNat b), aI (Int32.ofNat p), aI (Int32.ofNat v)] h (kI fun r h' => r = (vR (S.getD p []) v).1 ∧ h' = h) := by
  obtain ⟨b1, b2, b3⟩ := B.2.2.2 p hp
  have hb := B.1
  have h3 := B.2.1
  have hm : v % (S.getD p []).length < (S.getD p []).length := Nat.mod_lt _ (by omega)
  refine eX11_xOf ?_
  unfold PX11_xOf_0
  refine (rdP_iff H.1).mpr ⟨_, rfl, (rdP_iff H.1).mpr ⟨_, rfl, ?_⟩⟩
  rw [ix_v]
  refine H.ld (by omega) ⟨?_, ?_⟩
  · rw [b1]
    intro q
    have := i32_inj (n := 0) (by omega) (by omega) q
    omega
  · rw [b1, i32_rem (by omega) (by omega), ix_x]
    exact H.ld (by omega) ⟨_, rfl, congrArg Prod.fst (b3 _ hm), rfl⟩
theorem m11_yOf (H : MoZ h z k) {b : Nat} {S : SH} (B : Blk k b S) {p : Nat} (hp : p < S.length) {v : Nat} (hv : v < 1000) : sX11_yOf E [aP (some 313), aI (Int32.ofNat b), aI (Int32.ofNat p), aI (Int32.ofNat v)] h (kI fun r h' => r = (vR (S.getD p []) v).2 ∧ h' = h) := by
  obtain ⟨b1, b2, b3⟩ := B.2.2.2 p hp
  have hb := B.1
  have h3 := B.2.1
  have hm : v % (S.getD p []).length < (S.getD p []).length := Nat.mod_lt _ (by omega)
  refine eX11_yOf ?_
  unfold PX11_yOf_0
  refine (rdP_iff H.1).mpr ⟨_, rfl, (rdP_iff H.1).mpr ⟨_, rfl, ?_⟩⟩
  rw [ix_v]
  refine H.ld (by omega) ⟨?_, ?_⟩
  · rw [b1]
    intro q
    have := i32_inj (n := 0) (by omega) (by omega) q
    omega
  · rw [b1, i32_rem (by omega) (by omega), ix_y]
    exact H.ld (by omega) ⟨_, rfl, congrArg Prod.snd (b3 _ hm), rfl⟩
def upM (m w : Int32) : Int32 := if w ≤ m then m else w
def hiP (P : List PT) (a b : Int32) : Int32 := (List.range P.length).foldl (fun m v => upM m (a * (vR P v).1 + b * (vR P v).2)) (-100000)
theorem m11_high (H : MoZ h z k) {b : Nat} {S : SH} (B : Blk k b S) {p : Nat} (hp : p < S.length) (n1 n2 : Int32) : sX11_high E [aP (some 313), aI (Int32.ofNat b), aI (Int32.ofNat p), aI n1, aI n2] h (kI fun r h' => r = hiP (S.getD p []) n1 n2 ∧ h' = h) := by
  obtain ⟨b1, b2, b3⟩ := B.2.2.2 p hp
  generalize hP : S.getD p [] = P at *
  refine uX11_high (fun m h' l0 l1 l2 l3 l4 l5 l6 => ∃ v, m = P.length - v ∧ v ≤ P.length ∧ h' = h ∧ l0 = some 313 ∧ l1 = Int32.ofNat b ∧ l2 = Int32.ofNat p ∧ l3 = n1 ∧ l4 = n2 ∧ l5 = (List.range v).foldl (fun m v => upM m (n1 * (vR P v).1 + n2 * (vR P v).2)) (-100000) ∧ l6 = Int32.ofNat v) ⟨_, 0, rfl, Nat.zero_le _, rfl, rfl, rfl, rfl, rfl, rfl, rfl, rfl⟩ ?_
  rintro m h' l0 l1 l2 l3 l4 l5 l6 ⟨v, rfl, hv, rfl, rfl, rfl, rfl, rfl, rfl, rfl, rfl⟩
  unfold PX11_high_7
  have V := m11_vertices (E := E) H B hp
  rw [hP] at V
  refine cvI H.1 V ⟨fun c => ?_, fun c => ?_⟩
  · have hvv : v = P.length := by have := (i32_le (by omega) (by omega)).mp c; omega
    subst hvv
    exact ⟨_, rfl, rfl, rfl⟩
  · have hvv : v < P.length := by have := mt (i32_le (i := P.length) (j := v) (by omega) (by omega)).mpr c; omega
    have X := m11_xOf (E := E) H B hp (v := v) (by omega)
    have Y := m11_yOf (E := E) H B hp (v := v) (by omega)
    rw [hP] at X Y
    rw [i32_s]
    refine cvI H.1 X (cvI H.1 Y fun v7 e7 => ⟨fun c7 => ⟨P.length - (v + 1), by omega, v + 1, rfl, hvv, rfl, rfl, rfl, rfl, rfl, rfl, ?_, rfl⟩, fun c7 => ⟨P.length - (v + 1), by omega, v + 1, rfl, hvv, rfl, rfl, rfl, rfl, rfl, rfl, ?_, rfl⟩⟩)
    · rw [fold_succ, ← e7]; exact (if_pos c7).symm
    · rw [fold_succ, ← e7]; exact (if_neg c7).symm
def hgP (S : SH) (a b : Int32) : Int32 := (List.range S.length).foldl (fun m p => upM m (hiP (S.getD p []) a b)) (-100000)
theorem m11_highest (H : MoZ h z k) {b : Nat} {S : SH} (B : Blk k b S) (n1 n2 : Int32) : sX11_highest E [aP (some 313), aI (Int32.ofNat b), aI n1, aI n2] h (kI fun r h' => r = hgP S n1 n2 ∧ h' = h) := by
  have h3 := B.2.1
  refine uX11_highest (fun m h' l0 l1 l2 l3 l4 l5 => ∃ p, m = S.length - p ∧ p ≤ S.length ∧ h' = h ∧ l0 = some 313 ∧ l1 = Int32.ofNat b ∧ l2 = n1 ∧ l3 = n2 ∧ l4 = (List.range p).foldl (fun m p => upM m (hiP (S.getD p []) n1 n2)) (-100000) ∧ l5 = Int32.ofNat p) ⟨_, 0, rfl, Nat.zero_le _, rfl, rfl, rfl, rfl, rfl, rfl, rfl⟩ ?_
  rintro m h' l0 l1 l2 l3 l4 l5 ⟨p, rfl, hp, rfl, rfl, rfl, rfl, rfl, rfl, rfl⟩
  unfold PX11_highest_7
  refine cvI H.1 (m11_pieces H B) ⟨fun c => ?_, fun c => ?_⟩
  · have hpp : p = S.length := by have := (i32_le (by omega) (by omega)).mp c; omega
    subst hpp
    exact ⟨_, rfl, rfl, rfl⟩
  · have hpp : p < S.length := by have := mt (i32_le (i := S.length) (j := p) (by omega) (by omega)).mpr c; omega
    rw [i32_s]
    refine cvI H.1 (m11_high H B hpp l2 l3) ⟨fun c7 => ⟨S.length - (p + 1), by omega, p + 1, rfl, hpp, rfl, rfl, rfl, rfl, rfl, ?_, rfl⟩, fun c7 => ⟨S.length - (p + 1), by omega, p + 1, rfl, hpp, rfl, rfl, rfl, rfl, rfl, ?_, rfl⟩⟩
    · rw [fold_succ]; exact (if_pos c7).symm
    · rw [fold_succ]; exact (if_neg c7).symm
theorem m11_isEmpty (H : MoZ h z k) {j : Nat} {S : SH} (B : Blk k (4 + 40 * j) S) : sX11_isEmpty E [aP (some 313), aI (Int32.ofNat j)] h (kI fun r h' => r = (if S = [] then 1 else 0) ∧ h' = h) := by
  refine eX11_isEmpty ?_
  unfold PX11_isEmpty_0
  have h3 := B.2.1
  refine (rdP_iff H.1).mpr ⟨_, rfl, csI (m11_slotAt j) (H.ld (by have := B.1; omega) ?_)⟩
  rw [B.2.2.1]
  refine ⟨fun c => ⟨_, rfl, ?_, rfl⟩, fun c => ⟨_, rfl, ?_, rfl⟩⟩
  · rw [if_neg fun q => c (by rw [q]; rfl)]
  · rw [if_pos (List.eq_nil_of_length_eq_zero (i32_inj (n := 0) (by omega) (by omega) c))]
def dxR (d : Int32) : Int32 := if d < 2 then 1 else if d = 7 then 1 else if d = 2 then 0 else if d = 6 then 0 else -1
def dyR (d : Int32) : Int32 := if d - d / 4 * 4 = 0 then 0 else if (4 : Int32) ≤ d then -1 else 1
theorem m11_dirX (d : Int32) : sX11_dirX E [aI d] h (kI fun r h' => r = dxR d ∧ h' = h) := by
  refine eX11_dirX ?_
  unfold PX11_dirX_0 dxR
  refine ⟨fun c => ⟨_, rfl, by rw [if_pos c], rfl⟩, fun c => ⟨fun c2 => ⟨fun c3 => ⟨_, rfl, ?_, rfl⟩, fun c3 => ⟨fun c4 => ⟨_, rfl, ?_, rfl⟩, fun c4 => ⟨_, rfl, ?_, rfl⟩⟩⟩, fun c2 => ⟨_, rfl, ?_, rfl⟩⟩⟩
  · rw [if_neg c, if_neg c2, if_pos c3]
  · rw [if_neg c, if_neg c2, if_neg c3, if_neg c4]
  · rw [if_neg c, if_neg c2, if_neg c3, if_pos c4]
  · rw [if_neg c, if_pos c2]
theorem m11_dirY (d : Int32) : sX11_dirY E [aI d] h (kI fun r h' => r = dyR d ∧ h' = h) := by
  refine eX11_dirY ?_
  unfold PX11_dirY_0 dyR
  refine ⟨by decide, fun c => ⟨fun c2 => ⟨_, rfl, ?_, rfl⟩, fun c2 => ⟨_, rfl, ?_, rfl⟩⟩, fun c => ⟨_, rfl, ?_, rfl⟩⟩
  · rw [if_neg c, if_pos c2]
  · rw [if_neg c, if_neg c2]
  · rw [if_pos c]
end MO
