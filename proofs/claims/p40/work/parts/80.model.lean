/-! the reference: its cell, its rows; shapes as blocks of the row of numbers -/
/-- scratch: nx ny gapTop gapBelow beginTop beginBelow slideTop slideBelow at isWrong points corners foundX foundY laid -/
abbrev Sc : Type := Int32 × Int32 × Int64 × Int64 × Int64 × Int64 × Int64 × Int64 × Int32 × Int32 × Int32 × Int32 × Int32 × Int32 × Int32
abbrev zT (z : Sc) : Int32 × Int32 × Int32 × Int32 × Int32 × Int32 × Int32 := z.2.2.2.2.2.2.2.2
abbrev mob (ps ty : Int32) (z : Sc) : AE := .inr (11, [aP (some 314), aP (some 315), aI ps, aP (some 316), aI ty, aI z.1, aI z.2.1, aJ z.2.2.1, aJ z.2.2.2.1, aJ z.2.2.2.2.1, aJ z.2.2.2.2.2.1, aJ z.2.2.2.2.2.2.1, aJ z.2.2.2.2.2.2.2.1, aI (zT z).1, aI (zT z).2.1, aI (zT z).2.2.1, aP (some 317), aP (some 318), aI (zT z).2.2.2.1, aP (some 319), aP (some 320), aI (zT z).2.2.2.2.1, aI (zT z).2.2.2.2.2.1, aP (some 321), aI (zT z).2.2.2.2.2.2, aP (some 322)])
/-- numbers, past, text, pasts, typed -/
abbrev MK : Type := List Int32 × List Int32 × List Int32 × Int32 × Int32
def Rw (h : AH) (a n : Nat) : Prop := ∃ v, h[a]? = some (.inl (0, v)) ∧ v.length = n
def MoZ (h : AH) (z : Sc) (k : MK) : Prop :=
  h[313]? = some (mob k.2.2.2.1 k.2.2.2.2 z) ∧ (h[314]? = some (.inl (0, k.1)) ∧ k.1.length = 580) ∧ (h[315]? = some (.inl (0, k.2.1)) ∧ k.2.1.length = 3000) ∧ (h[316]? = some (.inl (1, k.2.2.1)) ∧ k.2.2.1.length = 150) ∧ Rw h 317 36 ∧ Rw h 318 36 ∧ Rw h 319 37 ∧ Rw h 320 37 ∧ Rw h 321 90 ∧ Rw h 322 500
theorem Rw.fr {h h' : AH} {a n lo hi : Nat} (H : Rw h a n) (f : Fr lo hi h h') (d : a < lo ∨ hi ≤ a) : Rw h' a n := by
  obtain ⟨v, h1, h2⟩ := H
  exact ⟨v, (f.2 _ d).trans h1, h2⟩
theorem MoZ.set {h : AH} {z : Sc} {k : MK} (H : MoZ h z k) (z' : Sc) : MoZ (h.set 313 (mob k.2.2.2.1 k.2.2.2.2 z')) z' k := by
  obtain ⟨h0, h1, h2, h3, h4, h5, h6, h7, h8, h9⟩ := H
  have f : Fr 313 314 h (h.set 313 (mob k.2.2.2.1 k.2.2.2.2 z')) := Fr.set (by omega) (by omega)
  exact ⟨gs h0, ⟨(f.2 _ (by omega)).trans h1.1, h1.2⟩, ⟨(f.2 _ (by omega)).trans h2.1, h2.2⟩, ⟨(f.2 _ (by omega)).trans h3.1, h3.2⟩, h4.fr f (by omega), h5.fr f (by omega), h6.fr f (by omega), h7.fr f (by omega), h8.fr f (by omega), h9.fr f (by omega)⟩
theorem MoZ.same {h h' : AH} {z : Sc} {k : MK} (H : MoZ h z k) (s : ∀ q, 313 ≤ q → q < 323 → h'[q]? = h[q]?) : MoZ h' z k := by
  obtain ⟨h0, h1, h2, h3, ⟨v4, h4⟩, ⟨v5, h5⟩, ⟨v6, h6⟩, ⟨v7, h7⟩, ⟨v8, h8⟩, ⟨v9, h9⟩⟩ := H
  exact ⟨(s _ (by omega) (by omega)).trans h0, ⟨(s _ (by omega) (by omega)).trans h1.1, h1.2⟩, ⟨(s _ (by omega) (by omega)).trans h2.1, h2.2⟩, ⟨(s _ (by omega) (by omega)).trans h3.1, h3.2⟩, ⟨v4, (s _ (by omega) (by omega)).trans h4.1, h4.2⟩, ⟨v5, (s _ (by omega) (by omega)).trans h5.1, h5.2⟩, ⟨v6, (s _ (by omega) (by omega)).trans h6.1, h6.2⟩, ⟨v7, (s _ (by omega) (by omega)).trans h7.1, h7.2⟩, ⟨v8, (s _ (by omega) (by omega)).trans h8.1, h8.2⟩, ⟨v9, (s _ (by omega) (by omega)).trans h9.1, h9.2⟩⟩
def sA (k : MK) (i : Nat) : Int32 := k.1.getD i 0
/-- a block of the row holds a shape -/
def Blk (k : MK) (b : Nat) (S : SH) : Prop := b + 40 ≤ 580 ∧ S.length ≤ 3 ∧ sA k b = Int32.ofNat S.length ∧ ∀ p, p < S.length → sA k (b + 1 + p) = Int32.ofNat (S.getD p []).length ∧ (1 ≤ (S.getD p []).length ∧ (S.getD p []).length ≤ 6) ∧ ∀ v, v < (S.getD p []).length → (sA k (b + 4 + 12 * p + 2 * v), sA k (b + 5 + 12 * p + 2 * v)) = (S.getD p []).getD v (0, 0)
def vR (P : List PT) (v : Nat) : PT := P.getD (v % P.length) (0, 0)
section MO
variable {E : EV} {h : AH} {z : Sc} {k : MK}
def inP (v lo hi : Int32) : Prop := ¬ v < lo ∧ ¬ hi < v
def szI (v : Int32) : Int32 := if 0 ≤ v then v else -v
def upM (m w : Int32) : Int32 := if w ≤ m then m else w
def hiP (P : List PT) (a b : Int32) : Int32 := (List.range P.length).foldl (fun m v => upM m (a * (vR P v).1 + b * (vR P v).2)) (-100000)
def hgP (S : SH) (a b : Int32) : Int32 := (List.range S.length).foldl (fun m p => upM m (hiP (S.getD p []) a b)) (-100000)
def dxR (d : Int32) : Int32 := if d < 2 then 1 else if d = 7 then 1 else if d = 2 then 0 else if d = 6 then 0 else -1
def dyR (d : Int32) : Int32 := if d - d / 4 * 4 = 0 then 0 else if (4 : Int32) ≤ d then -1 else 1
end MO
