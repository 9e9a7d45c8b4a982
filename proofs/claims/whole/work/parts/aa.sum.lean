/-! the class's sum is the merge -/
def zL (V : List PT) (k : Nat) : Z2 := zR V (low V + k)
def spt (A B : List PT) (s : Nat × Nat) : PT := ((vAt A s.1).1 + (vAt B s.2).1, (vAt A s.1).2 + (vAt B s.2).2)
section SU
variable {A B : List PT}
theorem vAt_zL {V : List PT} (hne : V ≠ []) {k : Nat} (hk : k ≤ V.length) : zP (vAt V k) = zL V k := by
  rw [vAt_vR hne hk]; rfl
theorem vAt_bd {V : List PT} (h : SmV V) (k : Nat) : Bd (vAt V k) := (h.get _).bd
theorem turn_mT (ha : SmV A) (hb : SmV B) (na : A ≠ []) (nb : B ≠ []) (i j : Nat) : (turnP A B i j).toInt = mT A.length B.length (zL A) (zL B) (i, j) := by
  unfold turnP mT
  dsimp only
  by_cases c1 : i < A.length
  · by_cases c2 : j < B.length
    · rw [if_pos c1, if_pos c2, if_pos c1, if_pos c2, cr_i32 (vAt_bd ha i) (vAt_bd ha (i + 1)) (vAt_bd hb (j + 1)) (vAt_bd hb j), vAt_zL na (by omega), vAt_zL na (by omega), vAt_zL nb (by omega), vAt_zL nb (by omega)]
      rfl
    · rw [if_pos c1, if_neg c2, if_pos c1, if_neg c2]; rfl
  · rw [if_neg c1, if_neg c1]; rfl
theorem nx_eq (ha : SmV A) (hb : SmV B) (na : A ≠ []) (nb : B ≠ []) (s : Nat × Nat) : ((if turnP A B s.1 s.2 < 0 then s.1 else s.1 + 1), (if 0 < turnP A B s.1 s.2 then s.2 else s.2 + 1)) = mNx A.length B.length (zL A) (zL B) s := by
  have e := turn_mT ha hb na nb s.1 s.2
  have e0 : (0 : Int32).toInt = 0 := rfl
  unfold mNx
  have c1 : turnP A B s.1 s.2 < 0 ↔ mT A.length B.length (zL A) (zL B) s < 0 := by rw [Int32.lt_iff_toInt_lt, e, e0]
  have c2 : 0 < turnP A B s.1 s.2 ↔ 0 < mT A.length B.length (zL A) (zL B) s := by rw [Int32.lt_iff_toInt_lt, e, e0]
  by_cases d1 : turnP A B s.1 s.2 < 0
  · rw [if_pos d1, if_pos (c1.mp d1)]
    by_cases d2 : 0 < turnP A B s.1 s.2
    · rw [if_pos d2, if_pos (c2.mp d2)]
    · rw [if_neg d2, if_neg fun q => d2 (c2.mpr q)]
  · rw [if_neg d1, if_neg fun q => d1 (c1.mpr q)]
    by_cases d2 : 0 < turnP A B s.1 s.2
    · rw [if_pos d2, if_pos (c2.mp d2)]
    · rw [if_neg d2, if_neg fun q => d2 (c2.mpr q)]
theorem sumGo_st (ha : SmV A) (hb : SmV B) (na : A ≠ []) (nb : B ≠ []) {K : Nat} (hK : mSt A.length B.length (zL A) (zL B) K = (A.length, B.length)) (hgo : ∀ k, k < K → mGo A.length B.length (mSt A.length B.length (zL A) (zL B) k)) : ∀ r k t, k + r = K → r ≤ t → sumGo A B t (mSt A.length B.length (zL A) (zL B) k).1 (mSt A.length B.length (zL A) (zL B) k).2 = (List.range' k r).map (fun q => spt A B (mSt A.length B.length (zL A) (zL B) q)) := fun r => by
  induction r with
  | zero =>
    intro k t hk ht
    have e : k = K := by omega
    subst e
    rw [hK]
    cases t with
    | zero => rfl
    | succ t =>
      show (if _ then _ else _) = _
      rw [if_neg (by dsimp only; omega)]; rfl
  | succ r ih =>
    intro k t hk ht
    obtain ⟨t, rfl⟩ : ∃ u, t = u + 1 := ⟨t - 1, by omega⟩
    have go : (mSt A.length B.length (zL A) (zL B) k).1 < A.length ∨ (mSt A.length B.length (zL A) (zL B) k).2 < B.length := hgo k (by omega)
    show (if _ then _ else _) = _
    rw [if_pos go, List.range'_succ, List.map_cons]
    have nx := nx_eq ha hb na nb (mSt A.length B.length (zL A) (zL B) k)
    have n1 := congrArg Prod.fst nx
    have n2 := congrArg Prod.snd nx
    dsimp only at n1 n2
    rw [n1, n2]
    have := ih (k + 1) t (by omega) (by omega)
    rw [← this]; rfl
/-- the class's sum, point by point -/
theorem sumP_st (ha : SmV A) (hb : SmV B) (na : A ≠ []) (nb : B ≠ []) {K : Nat} (hK : mSt A.length B.length (zL A) (zL B) K = (A.length, B.length)) (hgo : ∀ k, k < K → mGo A.length B.length (mSt A.length B.length (zL A) (zL B) k)) : sumP A B = (List.range K).map (fun q => spt A B (mSt A.length B.length (zL A) (zL B) q)) := by
  have le := st_ge (n := A.length) (m := B.length) (f := zL A) (g := zL B) K
  rw [hK] at le
  have := sumGo_st ha hb na nb hK hgo K 0 (A.length + B.length) (by omega) le
  rw [← List.range_eq_range'] at this
  exact this
end SU
