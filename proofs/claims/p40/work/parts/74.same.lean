/-! a picture reads its own cells alone -/
section SA
variable {h h' : AH} {a : Nat}
theorem TxO.same {cs : List Int32} {p : Nat} {num : Int32} (H : TxO h a cs p num) (s : ∀ q, a ≤ q → q < a + 2 → h'[q]? = h[q]?) : TxO h' a cs p num := by
  obtain ⟨xs, h1, h2, h3⟩ := H
  exact ⟨xs, (s _ (by omega) (by omega)).trans h1, ⟨(s _ (by omega) (by omega)).trans h2.1, h2.2⟩, h3⟩
theorem RdK.same {cs : List Int32} {p : Nat} {num : Int32} {S : SH} {W V : List PT} (H : RdK h a cs p num S W V) (s : ∀ q, a ≤ q → q < a + 10 → h'[q]? = h[q]?) : RdK h' a cs p num S W V := by
  obtain ⟨h1, h2, h3, h4⟩ := H
  exact ⟨h1.same fun q x y => s q (by omega) (by omega), (s _ (by omega) (by omega)).trans h2, h3.same fun q x y => s q (by omega) (by omega), h4.same fun q x y => s q (by omega) (by omega)⟩
theorem PairO.same {C : List PT} {f : FQ} (H : PairO h a C f) (s : ∀ q, a ≤ q → q < a + 11 → h'[q]? = h[q]?) : PairO h' a C f := by
  obtain ⟨h1, ⟨A, B, hA, hB⟩, h2, h3⟩ := H
  exact ⟨(s _ (by omega) (by omega)).trans h1, ⟨A, B, hA.same fun q x y => s q (by omega) (by omega), hB.same fun q x y => s q (by omega) (by omega)⟩, h2.same fun q x y => s q (by omega) (by omega), (s _ (by omega) (by omega)).trans h3⟩
theorem PlX.same {Os : List (List PT)} {bx : BX} {fx fy : Int32} (H : PlX h a Os bx fx fy) (s : ∀ q, a ≤ q → q < a + 232 → h'[q]? = h[q]?) : PlX h' a Os bx fx fy := by
  obtain ⟨h1, ⟨C, f, h2⟩, ⟨V, h3⟩, h4, h5, h6, h7⟩ := H
  exact ⟨(s _ (by omega) (by omega)).trans h1, ⟨C, f, h2.same fun q x y => s q (by omega) (by omega)⟩, ⟨V, h3.same fun q x y => s q (by omega) (by omega)⟩, (s _ (by omega) (by omega)).trans h4, h5, fun j hj => (h6 j hj).imp fun V g => g.same fun q x y => s q (by omega) (by omega), fun j hj => (h7 j hj).same fun q x y => s q (by omega) (by omega)⟩
theorem StI.same {e : Nat} {σ : SV} (H : StI h a e σ) (s : ∀ q, a ≤ q → q < a + 5 → h'[q]? = h[q]?) : StI h' a e σ := by
  obtain ⟨sh, xs, ys, ⟨h1, ⟨h2, l2⟩, ⟨h3, l3⟩, ⟨h4, l4⟩, ⟨h5, l5⟩⟩, h8, ag⟩ := H
  exact ⟨sh, xs, ys, ⟨(s _ (by omega) (by omega)).trans h1, ⟨(s _ (by omega) (by omega)).trans h2, l2⟩, ⟨(s _ (by omega) (by omega)).trans h3, l3⟩, ⟨(s _ (by omega) (by omega)).trans h4, l4⟩, ⟨(s _ (by omega) (by omega)).trans h5, l5⟩⟩, h8, ag⟩
theorem Hi.same {e : Nat} {vs : List SV} (H : Hi h a e vs) (s : ∀ q, a ≤ q → q < a + 32 → h'[q]? = h[q]?) : Hi h' a e vs := by
  obtain ⟨bs, R, q1, q2⟩ := H
  have hb : ∀ j, j < 6 → a + 2 ≤ bs.getD j 0 ∧ bs.getD j 0 + 5 ≤ a + 32 := fun j hj => by
    obtain ⟨k, hk, e1⟩ := R.2.2.2.2.1 j hj
    omega
  have h6 := R.2.2.2.1
  refine ⟨bs, ⟨(s _ (by omega) (by omega)).trans R.1, (s _ (by omega) (by omega)).trans R.2.1, R.2.2⟩, fun j hj => ?_, fun j hj => ?_⟩
  · obtain ⟨σ, g⟩ := q1 j hj
    exact ⟨σ, g.same fun q x y => s q (by have := hb j hj; omega) (by have := hb j hj; omega)⟩
  · exact (q2 j hj).same fun q x y => s q (by have := hb j (by omega); omega) (by have := hb j (by omega); omega)
theorem len_of {q : Nat} {x : AE} (H : h[q]? = some x) : q < h.length := (List.getElem?_eq_some_iff.mp H).1
theorem ShO.end_ {S : List (List PT)} {W : List PT} (H : ShO h a S W) : a + 4 ≤ h.length := by
  obtain ⟨_, _, _, _, _, _, _, -, -, -, h4, -⟩ := H
  have := len_of h4.1; omega
/-- the heap grows: what stood there stays -/
theorem Plb.grow {cs : List Int32} {σ : SV} {vs : List SV} {M : Nat → SH} (H : Plb h cs σ vs M) (s : ∀ q, q < h.length → h'[q]? = h[q]?) : Plb h' cs σ vs M := by
  obtain ⟨h0, ⟨p, num, S, W, V, h1⟩, ⟨L, h2⟩, ⟨C, f, h3⟩, ⟨Os, bx, fx, fy, h4⟩, h5, ⟨σb, h6⟩, h7, ⟨V2, h8⟩, ⟨S2, W2, h9⟩, ⟨g, h10⟩, ⟨bl, h11, h12⟩, h13⟩ := H
  have hl : 312 < h.length := len_of h11
  exact ⟨(s _ (by omega)).trans h0, ⟨p, num, S, W, V, h1.same fun q x y => s q (by omega)⟩, ⟨L, h2.same fun q x y => s q (by omega)⟩, ⟨C, f, h3.same fun q x y => s q (by omega)⟩, ⟨Os, bx, fx, fy, h4.same fun q x y => s q (by omega)⟩, h5.same fun q x y => s q (by omega), ⟨σb, h6.same fun q x y => s q (by omega)⟩, h7.same fun q x y => s q (by omega), ⟨V2, h8.same fun q x y => s q (by omega)⟩, ⟨S2, W2, h9.same fun q x y => s q (by omega)⟩, ⟨g, (s _ (by omega)).trans h10⟩, ⟨bl, (s _ (by omega)).trans h11, h12⟩, fun b hb => ⟨(h13.1 b hb).1.same fun q x y => s q (by have := (h13.1 b hb).1.end_; omega), (h13.1 b hb).2⟩, h13.2⟩
end SA
