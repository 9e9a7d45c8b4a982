/-! a gap is 0 just where two shapes touch or overlap -/
section ZE
theorem sd_lin (e w g : Z2) : dt e e * cr g w = dt w e * cr g e + cr e w * dt g e := by unfold cr dt; grind
theorem on_edge {n : Nat} {V : Nat → Z2} {p : Z2} (H : Cvx n V) {k : Nat} (h0 : sdE V p k = 0) (h1 : 0 ≤ alE V p k) (h2 : alE V p k ≤ sqE V k) (j : Nat) : 0 ≤ sdE V p j := by
  have sq := H.sq_pos k
  have a := H.weak j k
  have b := H.weak j (k + 1)
  have l := sd_lin (ed V k) (zs p (V k)) (ed V j)
  have s0 : cr (ed V k) (zs p (V k)) = 0 := h0
  rw [s0, Int.zero_mul, Int.add_zero] at l
  have e1 : cr (ed V j) (zs (V (k + 1)) (V j)) = cr (ed V j) (zs (V k) (V j)) + cr (ed V j) (ed V k) := by
    rw [cr_zs, cr_zs]
    show _ = _ + cr (ed V j) (zs (V (k + 1)) (V k))
    rw [cr_zs]; omega
  have e2 : sdE V p j = cr (ed V j) (zs (V k) (V j)) + cr (ed V j) (zs p (V k)) := by
    unfold sdE
    rw [cr_zs, cr_zs, cr_zs]; omega
  rw [e1] at b
  have l : sqE V k * cr (ed V j) (zs p (V k)) = alE V p k * cr (ed V j) (ed V k) := l
  rw [e2]
  generalize cr (ed V j) (zs (V k) (V j)) = A at *
  generalize cr (ed V j) (zs p (V k)) = x at *
  generalize cr (ed V j) (ed V k) = B at *
  generalize sqE V k = s at *
  generalize alE V p k = t at *
  by_cases c : 0 ≤ A + x
  · exact c
  · have m : s * (A + x) < 0 := Int.mul_neg_of_pos_of_neg sq (by omega)
    have r : s * (A + x) = (s - t) * A + t * (A + B) := by
      rw [Int.mul_add, l, Int.sub_mul, Int.mul_add]; omega
    have p1 : 0 ≤ (s - t) * A := Int.mul_nonneg (by omega) a
    have p2 : 0 ≤ t * (A + B) := Int.mul_nonneg h1 b
    omega
theorem cc_pos {n : Nat} {V : Nat → Z2} {p : Z2} (H : Cvx n V) {k : Nat} {N D : Int} (C : Cc V p k N D) (h : N = 0) (j : Nat) : 0 ≤ sdE V p j := by
  rcases C with ⟨h1, -⟩ | ⟨h1, h2, h3, -⟩
  · have z : zs p (V k) = (0, 0) := by
      by_cases c : zs p (V k) = (0, 0)
      · exact c
      · have := (par_self c).2
        omega
    refine on_edge H (k := k) ?_ ?_ ?_ j
    · unfold sdE cr; rw [z]; simp
    · unfold alE dt; rw [z]; simp
    · have := H.sq_pos k
      have : alE V p k = 0 := by unfold alE dt; rw [z]; simp
      omega
  · have z : sdE V p k = 0 := by
      rcases Int.mul_eq_zero.mp (h3.symm.trans h) with q | q <;> exact q
    exact on_edge H z (by omega) (by omega) j
variable {S S' S2 S2' : SH} {x y : Int32}
theorem gap_zero (H : SR S S') (H2 : SR S2 S2') (n1 : S ≠ []) (n2 : S2 ≠ []) (hp : Bd (x, y)) : (gapP S S2 x y).1.toInt = 0 ↔ relP S S2 x y ≠ 0 := by
  have cls : MnP BF (fun N D => False ∨ ∃ ij, ij ∈ pre S2.length S.length 0 ∧ CcP (nfP S S2 ij) x y N D) (gapP S S2 x y) := by
    refine mn_fold (P := BF) (step := fun f ij => gapV (nfP S S2 ij) x y f) (pre S2.length S.length 0) _ _ (fun ij hij f C M => ?_) ⟨⟨⟨by decide, by decide⟩, by decide⟩, fun _ _ h => h.elim, Or.inl ⟨rfl, fun _ _ h => h⟩⟩
    have m := pre_mem hij
    exact gap_V (nf_all (H.2 _ m.1) (H2.2 _ m.2)).1 hp M
  have pos := (gap_shape H H2 n1 n2 hp).2.1.1
  have rel := (rel_spec H H2 hp).2.2
  have anyL : (∃ ij, ij ∈ pre S2.length S.length 0 ∧ locP (nfP S S2 ij) x y ≠ 0) ↔ relP S S2 x y ≠ 0 := by
    rw [rel]
    unfold anyP
    rw [List.any_eq_true, ← H.1, ← H2.1]
    exact ⟨fun ⟨ij, h1, h2⟩ => ⟨ij, h1, (H.loc H2 hp h1).2.1.mp h2⟩, fun ⟨ij, h1, h2⟩ => ⟨ij, h1, (H.loc H2 hp h1).2.1.mpr h2⟩⟩
  rw [← anyL]
  obtain ⟨⟨cB, -⟩, cM⟩ := cls
  have e1 : (zF (gapP S S2 x y)).1 = (gapP S S2 x y).1.toInt := rfl
  have e2 : (zF (gapP S S2 x y)).2 = (gapP S S2 x y).2.toInt := rfl
  constructor
  · intro z
    rcases cM.2 with ⟨q, -⟩ | ⟨-, cand, -⟩
    · rw [e2] at q; omega
    · rcases cand with q | ⟨ij, hij, q⟩
      · exact q.elim
      · rcases q with ⟨l0, k, q⟩ | ⟨l1, -, -⟩
        · have m := pre_mem hij
          have PV := (nf_all (H.2 _ m.1) (H2.2 _ m.2)).1
          rw [e1, e2] at q
          exact absurd l0 ((loc_spec PV hp).2.1.mpr (cc_pos PV.2.2.1 q z))
        · exact ⟨ij, hij, l1⟩
  · rintro ⟨ij, hij, q⟩
    have cand : CcP (nfP S S2 ij) x y 0 1 := Or.inr ⟨q, rfl, rfl⟩
    rcases cM.2 with ⟨-, no⟩ | ⟨p0, -, mn⟩
    · exact absurd (Or.inr ⟨ij, hij, cand⟩) (no 0 1)
    · have m := mn 0 1 (Or.inr ⟨ij, hij, cand⟩)
      rw [e1] at m
      have := cB.1.1
      omega
theorem bmod32 {x : Int} (h1 : 0 ≤ x) (h2 : x < 2147483648) : x.bmod 4294967296 = x := by
  simp only [Int.bmod]; omega
theorem part_zero {f : FQ} (F : OkQ f) (hb : f.1.toInt ≤ 1073741824) : partF f 0 = 0 ↔ f.1.toInt = 0 := by
  rw [part_same F F rfl 0]
  unfold rPart partN
  rw [if_pos rfl]
  obtain ⟨⟨a1, a2⟩, b1, b2⟩ := F
  obtain ⟨u, hu⟩ : ∃ u : Nat, u = f.1.toInt.toNat := ⟨_, rfl⟩
  obtain ⟨v, hv⟩ : ∃ v : Nat, v = f.2.toInt.toNat := ⟨_, rfl⟩
  rw [← hu, ← hv]
  have g0 : 0 < Nat.gcd u v := Nat.gcd_pos_of_pos_right u (by omega)
  have gv : Nat.gcd u v ≤ v := Nat.le_of_dvd (by omega) (Nat.gcd_dvd_right u v)
  rw [i64_div (by omega) (by omega)]
  have hq : u / Nat.gcd u v ≤ u := Nat.div_le_self ..
  obtain ⟨w, hw⟩ : ∃ w, w = u / Nat.gcd u v := ⟨_, rfl⟩
  rw [← hw] at hq ⊢
  have t : ((Int64.ofNat w).toInt32).toInt = (w : Int) := by
    rw [Int64.toInt_toInt32, Int64.toInt_ofNat_of_lt (by omega)]
    exact bmod32 (by omega) (by omega)
  have z : (0 : Int32).toInt = 0 := by decide
  rw [← Int32.toInt_inj, t, z]
  constructor
  · intro h
    by_cases c : u = 0
    · omega
    · have le : Nat.gcd u v ≤ u := Nat.le_of_dvd (by omega) (Nat.gcd_dvd_left u v)
      have := Nat.div_pos le g0
      rw [← hw] at this
      omega
  · intro h
    have c : u = 0 := by omega
    rw [c, Nat.zero_div] at hw
    rw [hw]; rfl
end ZE
