/-! the class's sum as a polygon of the plane -/
section SV2
variable {A B : List PT} {K : Nat}
theorem zP_spt (ha : SmV A) (hb : SmV B) (na : A ≠ []) (nb : B ≠ []) {s : Nat × Nat} (h1 : s.1 ≤ A.length) (h2 : s.2 ≤ B.length) : zP (spt A B s) = za (zL A s.1) (zL B s.2) := by
  have a := vAt_bd ha s.1
  have b := vAt_bd hb s.2
  obtain ⟨a1, a2, a3, a4⟩ := a
  obtain ⟨b1, b2, b3, b4⟩ := b
  rw [← vAt_zL na h1, ← vAt_zL nb h2]
  unfold spt zP za
  dsimp only
  rw [i32_addE (by omega) (by omega) (by omega) (by omega), i32_addE (by omega) (by omega) (by omega) (by omega)]
theorem zR_sum (ha : SmV A) (hb : SmV B) (F : Low lM A.length (zL A)) (G : Low lM B.length (zL B)) (hK : mSt A.length B.length (zL A) (zL B) K = (A.length, B.length)) (hgo : ∀ k, k < K → mGo A.length B.length (mSt A.length B.length (zL A) (zL B) k)) : (sumP A B).length = K ∧ ∀ k, zR (sumP A B) k = mV A.length B.length (zL A) (zL B) K k := by
  have hn := F.1.1
  have hm := G.1.1
  have na : A ≠ [] := fun e => by rw [e] at hn; simp at hn
  have nb : B ≠ [] := fun e => by rw [e] at hm; simp at hm
  have e := sumP_st ha hb na nb hK hgo
  have len : (sumP A B).length = K := by rw [e, List.length_map, List.length_range]
  refine ⟨len, fun k => ?_⟩
  have h3 := (merge_rnd F G hK hgo).three
  have hlt := Nat.mod_lt k (show K > 0 by omega)
  have M := st_MI F G (k % K) fun j hj => hgo j (by omega)
  unfold zR vR
  rw [len, e, getD_mapq (d := 0) (by rw [List.length_range]; exact hlt)]
  have er : (List.range K).getD (k % K) 0 = k % K := by
    rw [List.getD_eq_getElem?_getD, List.getElem?_range hlt]; rfl
  rw [er]
  exact zP_spt ha hb na nb M.1 M.2.1
theorem mV_b (ha : SmV A) (hb : SmV B) (k : Nat) : (-18 ≤ (mV A.length B.length (zL A) (zL B) K k).1 ∧ (mV A.length B.length (zL A) (zL B) K k).1 ≤ 18) ∧ -18 ≤ (mV A.length B.length (zL A) (zL B) K k).2 ∧ (mV A.length B.length (zL A) (zL B) K k).2 ≤ 18 := by
  unfold mV
  generalize mSt A.length B.length (zL A) (zL B) (k % K) = s
  have a := zR_b ha (low A + s.1)
  have b := zR_b hb (low B + s.2)
  unfold za zL
  dsimp only
  omega
/-- the sum starts at its lowest point -/
theorem low_sum (ha : SmV A) (hb : SmV B) (F : Low lM A.length (zL A)) (G : Low lM B.length (zL B)) (hK : mSt A.length B.length (zL A) (zL B) K = (A.length, B.length)) (hgo : ∀ k, k < K → mGo A.length B.length (mSt A.length B.length (zL A) (zL B) k)) : low (sumP A B) = 0 := by
  obtain ⟨len, hz⟩ := zR_sum ha hb F G hK hgo
  have W := merge_low F G hK hgo
  have h3 := W.1.1
  have hne : sumP A B ≠ [] := fun e => by rw [e] at len; simp at len; omega
  obtain ⟨i1, i2⟩ := pfold_low _ hne
  obtain ⟨j1, j2⟩ := pfold_LoS _ hne
  rw [len] at i1 j2
  by_cases c : low (sumP A B) = 0
  · exact c
  · exfalso
    have st := W.2.1 (low (sumP A B)) (by rw [Nat.mod_eq_of_lt i1]; exact c)
    rw [← hz, ← hz, dt_lM, dt_lM] at st
    have b0 := mV_b (K := K) ha hb 0
    have bv := mV_b (K := K) ha hb (low (sumP A B))
    rw [← hz] at b0 bv
    have zk : ∀ q, q < K → zR (sumP A B) q = zP ((sumP A B).getD q (0, 0)) := fun q hq => by
      unfold zR; rw [vR_lt (by rw [len]; exact hq)]
    rw [zk 0 (by omega), zk _ i1] at st
    rw [zk 0 (by omega)] at b0
    rw [zk _ i1] at bv
    obtain ⟨⟨k1, k2⟩, -⟩ := j2 0 (by omega)
    have j1' : ((sumP A B).getD (low (sumP A B)) (0, 0)).2 = (pfold (sumP A B)).2.2.2.2.1 := j1
    rw [i2, ← j1'] at k2
    rw [← j1'] at k1
    unfold zP at st b0 bv
    dsimp only at st b0 bv
    by_cases d : ((sumP A B).getD 0 (0, 0)).2 = ((sumP A B).getD (low (sumP A B)) (0, 0)).2
    · have k2 := k2 d
      rw [d] at st
      omega
    · have : ((sumP A B).getD 0 (0, 0)).2.toInt ≠ ((sumP A B).getD (low (sumP A B)) (0, 0)).2.toInt := fun q => d (Int32.toInt_inj.mp q)
      omega
end SV2
