/-! polygons with vertices of some size: the sum again -/
def Bw (V : List PT) : Prop := ∀ v, v ∈ V → Bd v
theorem Bw.get {V : List PT} (h : Bw V) (j : Nat) : Bd (V.getD j (0, 0)) := by
  by_cases c : j < V.length
  · exact h _ (getD_mem (0, 0) c)
  · rw [List.getD_eq_getElem?_getD, List.getElem?_eq_none (by omega)]
    exact ⟨by decide, by decide, by decide, by decide⟩
theorem SmV.bw {V : List PT} (h : SmV V) : Bw V := fun v hv => (h v hv).bd
theorem zR_bW {V : List PT} (h : Bw V) (k : Nat) : (-200 ≤ (zR V k).1 ∧ (zR V k).1 ≤ 200) ∧ -200 ≤ (zR V k).2 ∧ (zR V k).2 ≤ 200 := by
  obtain ⟨a, b, c, d⟩ : Bd (vR V k) := h.get _
  exact ⟨⟨a, b⟩, c, d⟩
section SUW
variable {A B : List PT}
theorem vAt_bdW {V : List PT} (h : Bw V) (k : Nat) : Bd (vAt V k) := h.get _
theorem turn_mTW (ha : Bw A) (hb : Bw B) (na : A ≠ []) (nb : B ≠ []) (i j : Nat) : (turnP A B i j).toInt = mT A.length B.length (zL A) (zL B) (i, j) := by
  unfold turnP mT
  dsimp only
  by_cases c1 : i < A.length
  · by_cases c2 : j < B.length
    · rw [if_pos c1, if_pos c2, if_pos c1, if_pos c2, cr_i32 (vAt_bdW ha i) (vAt_bdW ha (i + 1)) (vAt_bdW hb (j + 1)) (vAt_bdW hb j), vAt_zL na (by omega), vAt_zL na (by omega), vAt_zL nb (by omega), vAt_zL nb (by omega)]
      rfl
    · rw [if_pos c1, if_neg c2, if_pos c1, if_neg c2]; rfl
  · rw [if_neg c1, if_neg c1]; rfl
theorem nx_eqW (ha : Bw A) (hb : Bw B) (na : A ≠ []) (nb : B ≠ []) (s : Nat × Nat) : ((if turnP A B s.1 s.2 < 0 then s.1 else s.1 + 1), (if 0 < turnP A B s.1 s.2 then s.2 else s.2 + 1)) = mNx A.length B.length (zL A) (zL B) s := by
  have e := turn_mTW ha hb na nb s.1 s.2
  have e0 : (0 : Int32).toInt = 0 := rfl
  unfold mNx
  have c1 : turnP A B s.1 s.2 < 0 ↔ mT A.length B.length (zL A) (zL B) s < 0 := by rw [Int32.lt_iff_toInt_lt, e, e0]
  have c2 : 0 < turnP A B s.1 s.2 ↔ 0 < mT A.length B.length (zL A) (zL B) s := by rw [Int32.lt_iff_toInt_lt, e, e0]
  by_cases d1 : turnP A B s.1 s.2 < 0
  · rw [if_pos d1, if_pos (c1.mp d1)]
    by_cases d2 : 0 < turnP A B s.1 s.2
    · rw [if_pos d2, if_pos (c2.mp d2)]
    · rw [if_neg d2, if_neg fun q => d2 (c2.mpr q)]
  · rw [if_neg d1, if_neg fun q => d1 (c1.mpr q)]
    by_cases d2 : 0 < turnP A B s.1 s.2
    · rw [if_pos d2, if_pos (c2.mp d2)]
    · rw [if_neg d2, if_neg fun q => d2 (c2.mpr q)]
theorem sumGo_stW (ha : Bw A) (hb : Bw B) (na : A ≠ []) (nb : B ≠ []) {K : Nat} (hK : mSt A.length B.length (zL A) (zL B) K = (A.length, B.length)) (hgo : ∀ k, k < K → mGo A.length B.length (mSt A.length B.length (zL A) (zL B) k)) : ∀ r k t, k + r = K → r ≤ t → sumGo A B t (mSt A.length B.length (zL A) (zL B) k).1 (mSt A.length B.length (zL A) (zL B) k).2 = (List.range' k r).map (fun q => spt A B (mSt A.length B.length (zL A) (zL B) q)) := fun r => by
  induction r with
  | zero =>
    intro k t hk ht
    have e : k = K := by omega
    subst e
    rw [hK]
    cases t with
    | zero => rfl
    | succ t =>
      show (if _ then _ else _) = _
      rw [if_neg (by dsimp only; omega)]; rfl
  | succ r ih =>
    intro k t hk ht
    obtain ⟨t, rfl⟩ : ∃ u, t = u + 1 := ⟨t - 1, by omega⟩
    have go : (mSt A.length B.length (zL A) (zL B) k).1 < A.length ∨ (mSt A.length B.length (zL A) (zL B) k).2 < B.length := hgo k (by omega)
    show (if _ then _ else _) = _
    rw [if_pos go, List.range'_succ, List.map_cons]
    have nx := nx_eqW ha hb na nb (mSt A.length B.length (zL A) (zL B) k)
    have n1 := congrArg Prod.fst nx
    have n2 := congrArg Prod.snd nx
    dsimp only at n1 n2
    rw [n1, n2]
    have := ih (k + 1) t (by omega) (by omega)
    rw [← this]; rfl
/-- the class's sum, point by point -/
theorem sumP_stW (ha : Bw A) (hb : Bw B) (na : A ≠ []) (nb : B ≠ []) {K : Nat} (hK : mSt A.length B.length (zL A) (zL B) K = (A.length, B.length)) (hgo : ∀ k, k < K → mGo A.length B.length (mSt A.length B.length (zL A) (zL B) k)) : sumP A B = (List.range K).map (fun q => spt A B (mSt A.length B.length (zL A) (zL B) q)) := by
  have le := st_ge (n := A.length) (m := B.length) (f := zL A) (g := zL B) K
  rw [hK] at le
  have := sumGo_stW ha hb na nb hK hgo K 0 (A.length + B.length) (by omega) le
  rw [← List.range_eq_range'] at this
  exact this
end SUW
section SVW
variable {A B : List PT} {K : Nat}
theorem zP_sptW (ha : Bw A) (hb : Bw B) (na : A ≠ []) (nb : B ≠ []) {s : Nat × Nat} (h1 : s.1 ≤ A.length) (h2 : s.2 ≤ B.length) : zP (spt A B s) = za (zL A s.1) (zL B s.2) := by
  have a := vAt_bdW ha s.1
  have b := vAt_bdW hb s.2
  obtain ⟨a1, a2, a3, a4⟩ := a
  obtain ⟨b1, b2, b3, b4⟩ := b
  rw [← vAt_zL na h1, ← vAt_zL nb h2]
  unfold spt zP za
  dsimp only
  rw [i32_addE (by omega) (by omega) (by omega) (by omega), i32_addE (by omega) (by omega) (by omega) (by omega)]
theorem zR_sumW (ha : Bw A) (hb : Bw B) (F : Low lM A.length (zL A)) (G : Low lM B.length (zL B)) (hK : mSt A.length B.length (zL A) (zL B) K = (A.length, B.length)) (hgo : ∀ k, k < K → mGo A.length B.length (mSt A.length B.length (zL A) (zL B) k)) : (sumP A B).length = K ∧ ∀ k, zR (sumP A B) k = mV A.length B.length (zL A) (zL B) K k := by
  have hn := F.1.1
  have hm := G.1.1
  have na : A ≠ [] := fun e => by rw [e] at hn; simp at hn
  have nb : B ≠ [] := fun e => by rw [e] at hm; simp at hm
  have e := sumP_stW ha hb na nb hK hgo
  have len : (sumP A B).length = K := by rw [e, List.length_map, List.length_range]
  refine ⟨len, fun k => ?_⟩
  have h3 := (merge_rnd F G hK hgo).three
  have hlt := Nat.mod_lt k (show K > 0 by omega)
  have M := st_MI F G (k % K) fun j hj => hgo j (by omega)
  unfold zR vR
  rw [len, e, getD_mapq (d := 0) (by rw [List.length_range]; exact hlt)]
  have er : (List.range K).getD (k % K) 0 = k % K := by
    rw [List.getD_eq_getElem?_getD, List.getElem?_range hlt]; rfl
  rw [er]
  exact zP_sptW ha hb na nb M.1 M.2.1
theorem mV_bW (ha : Bw A) (hb : Bw B) (k : Nat) : (-400 ≤ (mV A.length B.length (zL A) (zL B) K k).1 ∧ (mV A.length B.length (zL A) (zL B) K k).1 ≤ 400) ∧ -400 ≤ (mV A.length B.length (zL A) (zL B) K k).2 ∧ (mV A.length B.length (zL A) (zL B) K k).2 ≤ 400 := by
  unfold mV
  generalize mSt A.length B.length (zL A) (zL B) (k % K) = s
  have a := zR_bW ha (low A + s.1)
  have b := zR_bW hb (low B + s.2)
  unfold za zL
  dsimp only
  omega
/-- the sum starts at its lowest point -/
theorem low_sumW (ha : Bw A) (hb : Bw B) (F : Low lM A.length (zL A)) (G : Low lM B.length (zL B)) (hK : mSt A.length B.length (zL A) (zL B) K = (A.length, B.length)) (hgo : ∀ k, k < K → mGo A.length B.length (mSt A.length B.length (zL A) (zL B) k)) : low (sumP A B) = 0 := by
  obtain ⟨len, hz⟩ := zR_sumW ha hb F G hK hgo
  have W := merge_low F G hK hgo
  have h3 := W.1.1
  have hne : sumP A B ≠ [] := fun e => by rw [e] at len; simp at len; omega
  obtain ⟨i1, i2⟩ := pfold_low _ hne
  obtain ⟨j1, j2⟩ := pfold_LoS _ hne
  rw [len] at i1 j2
  by_cases c : low (sumP A B) = 0
  · exact c
  · exfalso
    have st := W.2.1 (low (sumP A B)) (by rw [Nat.mod_eq_of_lt i1]; exact c)
    rw [← hz, ← hz, dt_lM, dt_lM] at st
    have b0 := mV_bW (K := K) ha hb 0
    have bv := mV_bW (K := K) ha hb (low (sumP A B))
    rw [← hz] at b0 bv
    have zk : ∀ q, q < K → zR (sumP A B) q = zP ((sumP A B).getD q (0, 0)) := fun q hq => by
      unfold zR; rw [vR_lt (by rw [len]; exact hq)]
    rw [zk 0 (by omega), zk _ i1] at st
    rw [zk 0 (by omega)] at b0
    rw [zk _ i1] at bv
    obtain ⟨⟨k1, k2⟩, -⟩ := j2 0 (by omega)
    have j1' : ((sumP A B).getD (low (sumP A B)) (0, 0)).2 = (pfold (sumP A B)).2.2.2.2.1 := j1
    rw [i2, ← j1'] at k2
    rw [← j1'] at k1
    unfold zP at st b0 bv
    dsimp only at st b0 bv
    by_cases d : ((sumP A B).getD 0 (0, 0)).2 = ((sumP A B).getD (low (sumP A B)) (0, 0)).2
    · have k2 := k2 d
      rw [d] at st
      omega
    · have : ((sumP A B).getD 0 (0, 0)).2.toInt ≠ ((sumP A B).getD (low (sumP A B)) (0, 0)).2.toInt := fun q => d (Int32.toInt_inj.mp q)
      omega
end SVW
theorem low_of_cvx {V : List PT} (h : Bw V) (C : Cvx V.length (zR V)) : Low lM V.length (fun k => zR V (low V + k)) := by
  have h3 : 3 ≤ V.length := C.1
  have C' := C.shift (low V)
  have hne : V ≠ [] := fun e => by rw [e] at h3; simp at h3
  obtain ⟨i1, i2⟩ := pfold_low V hne
  obtain ⟨j1, j2⟩ := pfold_LoS V hne
  have z0 : zR V (low V + 0) = zP (V.getD (low V) (0, 0)) := by unfold zR; rw [Nat.add_zero, vR_lt i1]
  refine ⟨C', fun v hv => ?_, fun k => ?_⟩
  · have hm := Nat.mod_lt (low V + v) (show V.length > 0 by omega)
    have zk : zR V (low V + v) = zP (V.getD ((low V + v) % V.length) (0, 0)) := rfl
    have b0 := zR_bW h (low V + 0)
    have bv := zR_bW h (low V + v)
    have ne : zR V (low V + v) ≠ zR V (low V + 0) := by
      have m1 := C'.mod v
      have m2 : zR V (low V + v % V.length) = zR V (low V + v) := m1
      have vm := Nat.mod_lt v (show V.length > 0 by omega)
      rw [← m2]
      exact C'.ne (e := 0) (v := v % V.length) (by omega) (by omega)
    obtain ⟨⟨k1, k2⟩, -⟩ := j2 _ hm
    show dt lM (zR V (low V + 0)) < dt lM (zR V (low V + v))
    rw [dt_lM, dt_lM]
    have y0 : (zR V (low V + 0)).2 = ((V.getD (low V) (0, 0)).2).toInt := by rw [z0]; rfl
    have x0 : (zR V (low V + 0)).1 = ((V.getD (low V) (0, 0)).1).toInt := by rw [z0]; rfl
    have yv : (zR V (low V + v)).2 = ((V.getD ((low V + v) % V.length) (0, 0)).2).toInt := by rw [zk]; rfl
    have xv : (zR V (low V + v)).1 = ((V.getD ((low V + v) % V.length) (0, 0)).1).toInt := by rw [zk]; rfl
    have j1' : (V.getD (low V) (0, 0)).2 = (pfold V).2.2.2.2.1 := j1
    by_cases c : (V.getD ((low V + v) % V.length) (0, 0)).2 = (pfold V).2.2.2.2.1
    · have k2 := k2 c
      rw [i2] at k2
      have ey : (zR V (low V + v)).2 = (zR V (low V + 0)).2 := by rw [yv, y0, c, j1']
      have nx' : (zR V (low V + v)).1 ≠ (zR V (low V + 0)).1 := fun q => ne (Prod.ext q ey)
      omega
    · have : (pfold V).2.2.2.2.1.toInt ≠ (V.getD ((low V + v) % V.length) (0, 0)).2.toInt := fun q => c (Int32.toInt_inj.mp q).symm
      rw [← j1'] at k1 this
      omega
  · have b0 := zR_bW h (low V + k)
    have b1 := zR_bW h (low V + (k + 1))
    have ne := C'.ne (e := k) (v := k + 1) (by omega) (by omega)
    have e : ed (fun k => zR V (low V + k)) k = zs (zR V (low V + (k + 1))) (zR V (low V + k)) := rfl
    rw [e, dt_zs, dt_lM, dt_lM]
    intro q
    have ey : (zR V (low V + (k + 1))).2 = (zR V (low V + k)).2 := by omega
    have ex : (zR V (low V + (k + 1))).1 = (zR V (low V + k)).1 := by omega
    exact ne (Prod.ext ex ey)
/-- a good polygon: of some size, strictly convex -/
def PG (m : Int) (V : List PT) : Prop := (0 ≤ m ∧ m ≤ 200) ∧ (∀ v, v ∈ V → -m ≤ v.1.toInt ∧ v.1.toInt ≤ m ∧ -m ≤ v.2.toInt ∧ v.2.toInt ≤ m) ∧ Low lM V.length (zL V)
section PGS
variable {V A B : List PT} {m a b : Int}
theorem PG.bw (H : PG m V) : Bw V := fun v hv => by
  obtain ⟨x1, x2, x3, x4⟩ := H.2.1 v hv
  have := H.1
  exact ⟨by omega, by omega, by omega, by omega⟩
theorem PG.ne (H : PG m V) : V ≠ [] := fun e => by
  have := H.2.2.1.1
  rw [e] at this; simp at this
theorem Cvx.neg {n : Nat} {f : Nat → Z2} (H : Cvx n f) : Cvx n (fun k => zs (0, 0) (f k)) := by
  refine ⟨H.1, fun k => by show zs (0, 0) (f (k + n)) = _; rw [H.2.1], fun e v h1 h2 => ?_⟩
  have := H.2.2 e v h1 h2
  have q : cr (ed (fun k => zs (0, 0) (f k)) e) (zs (zs (0, 0) (f v)) (zs (0, 0) (f e))) = cr (ed f e) (zs (f v) (f e)) := by
    unfold ed cr zs; grind
  show 0 < cr (ed (fun k => zs (0, 0) (f k)) e) (zs (zs (0, 0) (f v)) (zs (0, 0) (f e)))
  omega
/-- the sum of two good polygons -/
theorem pg_sum (F : PG a A) (G : PG b B) (hab : a + b ≤ 200) : PG (a + b) (sumP A B) ∧ ∃ K, (mSt A.length B.length (zL A) (zL B) K = (A.length, B.length) ∧ ∀ k, k < K → mGo A.length B.length (mSt A.length B.length (zL A) (zL B) k)) ∧ (sumP A B).length = K ∧ zL (sumP A B) = mV A.length B.length (zL A) (zL B) K := by
  obtain ⟨K, hK, hgo⟩ := st_end F.2.2 G.2.2
  obtain ⟨len, hz⟩ := zR_sumW F.bw G.bw F.2.2 G.2.2 hK hgo
  have lw := low_sumW F.bw G.bw F.2.2 G.2.2 hK hgo
  have ez : zL (sumP A B) = mV A.length B.length (zL A) (zL B) K := funext fun k => by
    unfold zL; rw [lw, Nat.zero_add]; exact hz k
  refine ⟨⟨by have := F.1; have := G.1; omega, fun v hv => ?_, ?_⟩, K, ⟨hK, hgo⟩, len, ez⟩
  · rw [sumP_stW F.bw G.bw F.ne G.ne hK hgo] at hv
    obtain ⟨q, -, rfl⟩ := List.mem_map.mp hv
    unfold spt
    have ga : ∀ (X : List PT) (c : Int) (H : PG c X) (j : Nat), -c ≤ (vAt X j).1.toInt ∧ (vAt X j).1.toInt ≤ c ∧ -c ≤ (vAt X j).2.toInt ∧ (vAt X j).2.toInt ≤ c := fun X c H j => by
      unfold vAt
      generalize (if low X + j < X.length then low X + j else low X + j - X.length) = i
      by_cases d : i < X.length
      · exact H.2.1 _ (getD_mem (0, 0) d)
      · rw [List.getD_eq_getElem?_getD, List.getElem?_eq_none (by omega)]
        have := H.1
        have z : (0 : Int32).toInt = 0 := by decide
        show -c ≤ (0 : Int32).toInt ∧ (0 : Int32).toInt ≤ c ∧ -c ≤ (0 : Int32).toInt ∧ (0 : Int32).toInt ≤ c
        rw [z]; omega
    have p := ga A a F (mSt A.length B.length (zL A) (zL B) q).1
    have r := ga B b G (mSt A.length B.length (zL A) (zL B) q).2
    have := F.1
    have := G.1
    dsimp only
    rw [i32_addE (by omega) (by omega) (by omega) (by omega), i32_addE (by omega) (by omega) (by omega) (by omega)]
    omega
  · rw [len, ez]
    exact merge_low F.2.2 G.2.2 hK hgo
end PGS
