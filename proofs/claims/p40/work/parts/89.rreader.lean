/-! the reference reads a shape -/
theorem MoZ.st {h : AH} {z : Sc} {k : MK} (H : MoZ h z k) {i : Nat} (hi : i < 580) {v : Int32} {K : AH → Prop} (c : K (h.set 314 (.inl (0, k.1.set i v)))) : astI h (some 314) 0 (Int32.ofNat i) v K := by
  refine ⟨_, _, rfl, H.2.1.1, i32_nn (by omega), by rw [i32_n (by omega), H.2.1.2]; exact hi, ?_⟩
  rw [i32_n (by omega)]; exact c
theorem MoZ.upd {h : AH} {z : Sc} {k : MK} (H : MoZ h z k) {s : List Int32} (hs : s.length = 580) : MoZ (h.set 314 (.inl (0, s))) z (s, k.2) := by
  obtain ⟨h0, h1, h2, h3, h4, h5, h6, h7, h8, h9⟩ := H
  have f : Fr 314 315 h (h.set 314 (.inl (0, s))) := Fr.set (by omega) (by omega)
  exact ⟨(f.2 _ (by omega)).trans h0, ⟨gs h1.1, hs⟩, ⟨(f.2 _ (by omega)).trans h2.1, h2.2⟩, ⟨(f.2 _ (by omega)).trans h3.1, h3.2⟩, h4.fr f (by omega), h5.fr f (by omega), h6.fr f (by omega), h7.fr f (by omega), h8.fr f (by omega), h9.fr f (by omega)⟩
section RS
variable {E : EV} {h : AH} {z : Sc} {k : MK} {cs : List Int32} {la : Int32}
theorem RdZ.len {p : Nat} {w : Bool} (H : RdZ h k p w la) : k.1.length = 580 := by
  obtain ⟨z, H, r⟩ := H
  exact H.2.1.2
end RS
