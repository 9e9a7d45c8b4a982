/-! hulls of shapes, sums of pieces: class and reference have one list of corners -/
theorem tAt_mem {T : List PT} {i : Nat} (h : i < T.length) : tAt T i ∈ T := getD_mem (0, 0) h
theorem mem_tAt {T : List PT} {v : PT} (h : v ∈ T) : ∃ i, i < T.length ∧ tAt T i = v := by
  obtain ⟨i, hi, e⟩ := List.getElem_of_mem h
  refine ⟨i, hi, ?_⟩
  unfold tAt
  rw [List.getD_eq_getElem?_getD, List.getElem?_eq_getElem hi, e]; rfl
theorem PtS_mem {T : List PT} {t : Z2} : PtS T t ↔ ∃ v, v ∈ T ∧ zP v = t := by
  constructor
  · rintro ⟨i, hi, e⟩
    exact ⟨_, tAt_mem hi, e⟩
  · rintro ⟨v, hv, e⟩
    obtain ⟨i, hi, q⟩ := mem_tAt hv
    exact ⟨i, hi, by rw [q]; exact e⟩
theorem mem_vR {V : List PT} (h : V ≠ []) (k : Nat) : vR V k ∈ V := getD_mem (0, 0) (Nat.mod_lt _ (List.length_pos_iff.mpr h))
theorem vR_mem {V : List PT} {v : PT} (h : v ∈ V) : ∃ k, k < V.length ∧ vR V k = v := by
  obtain ⟨i, hi, e⟩ := mem_tAt h
  exact ⟨i, hi, by rw [vR_lt hi]; exact e⟩
theorem Rot.mem {A A' : List PT} (H : Rot A A') (h0 : 0 < A.length) (v : PT) : v ∈ A ↔ v ∈ A' := by
  obtain ⟨hl, s, hs⟩ := H
  constructor
  · intro h
    obtain ⟨k, -, e⟩ := vR_mem h
    rw [← e, hs]
    exact mem_vR (List.length_pos_iff.mp (by omega)) _
  · intro h
    obtain ⟨k, hk, e⟩ := vR_mem h
    have : vR A (k + (A'.length - 1) * s) = v := by
      rw [hs, vR_congr (b := k), e]
      have e2 : s + (k + (A'.length - 1) * s) = k + A'.length * s := by
        obtain ⟨m, hm⟩ : ∃ m, A'.length = m + 1 := ⟨A'.length - 1, by omega⟩
        rw [hm, Nat.add_sub_cancel, Nat.add_mul, Nat.one_mul]; omega
      rw [e2, Nat.add_mul_mod_self_left]
    rw [← this]
    exact mem_vR (List.length_pos_iff.mp h0) _
theorem mem_flat {S : SH} {v : PT} : v ∈ S.flatten ↔ ∃ i, i < S.length ∧ v ∈ S.getD i [] := by
  rw [List.mem_flatten]
  constructor
  · rintro ⟨V, hV, hv⟩
    obtain ⟨i, hi, e⟩ := List.getElem_of_mem hV
    refine ⟨i, hi, ?_⟩
    rw [List.getD_eq_getElem?_getD, List.getElem?_eq_getElem hi, e]; exact hv
  · rintro ⟨i, hi, hv⟩
    exact ⟨_, getD_mem [] hi, hv⟩
theorem SR.mem {S S' : SH} (H : SR S S') (v : PT) : v ∈ S.flatten ↔ v ∈ S'.flatten := by
  rw [mem_flat, mem_flat, ← H.1]
  constructor
  · rintro ⟨i, hi, h⟩
    have c := H.2 i hi
    exact ⟨i, hi, (c.1.mem (by have := c.len; omega) v).mp h⟩
  · rintro ⟨i, hi, h⟩
    have c := H.2 i hi
    exact ⟨i, hi, (c.1.mem (by have := c.len; omega) v).mpr h⟩
theorem flat_len6 : ∀ (S : SH), (∀ V, V ∈ S → V.length ≤ 6) → S.flatten.length ≤ 6 * S.length := fun S => by
  induction S with
  | nil => intro _; simp
  | cons V S ih =>
    intro h
    have a := h V (List.mem_cons_self ..)
    have b := ih fun W hW => h W (List.mem_cons_of_mem _ hW)
    rw [List.flatten_cons, List.length_append, List.length_cons]; omega
theorem mem_get {S : SH} {V : List PT} (h : V ∈ S) : ∃ i, i < S.length ∧ S.getD i [] = V := by
  obtain ⟨i, hi, e⟩ := List.getElem_of_mem h
  refine ⟨i, hi, ?_⟩
  rw [List.getD_eq_getElem?_getD, List.getElem?_eq_getElem hi, e]; rfl
theorem SR.len18 {S S' : SH} (H : SR S S') (h3 : S'.length ≤ 3) : S.flatten.length ≤ 18 ∧ S'.flatten.length ≤ 18 := by
  have a := flat_len6 S fun V hV => by
    obtain ⟨i, hi, rfl⟩ := mem_get hV
    have := (H.2 i hi).len; omega
  have b := flat_len6 S' fun V hV => by
    obtain ⟨i, hi, rfl⟩ := mem_get hV
    have := (H.2 i (by rw [H.1]; exact hi)).len; omega
  have := H.1
  omega
section H2S
variable {S S' : SH}
theorem SR.bs (H : SR S S') : Bs S.flatten ∧ Bs S'.flatten := by
  have a : Bs S'.flatten := fun v hv => by
    obtain ⟨i, hi, h⟩ := mem_flat.mp hv
    obtain ⟨q1, q2, q3, q4⟩ := (H.2 i (by rw [H.1]; exact hi)).2.1 v h
    exact ⟨by omega, by omega, by omega, by omega⟩
  exact ⟨fun v hv => a v ((H.mem v).mp hv), a⟩
theorem SR.ne (H : SR S S') (h : S ≠ []) : S.flatten ≠ [] ∧ S'.flatten ≠ [] := by
  have h0 : 0 < S.length := List.length_pos_iff.mpr h
  have c := H.2 0 h0
  have m := mem_vR (V := S.getD 0 []) (List.length_pos_iff.mp (by have := c.len; omega)) 0
  have f := mem_flat.mpr ⟨0, h0, m⟩
  exact ⟨List.ne_nil_of_mem f, List.ne_nil_of_mem ((H.mem _).mp f)⟩
theorem low_two {T T' : List PT} (B : Bs T) (B' : Bs T') (n : T ≠ []) (n' : T' ≠ []) (h : ∀ t, PtS T t ↔ PtS T' t) : zP (tAt T (lowT T)) = zP (tAt T' (lowT T')) := by
  have m : PtS T (zP (tAt T (lowT T))) := ⟨_, lowT_lt n, rfl⟩
  have m' : PtS T' (zP (tAt T' (lowT T'))) := ⟨_, lowT_lt n', rfl⟩
  by_cases c : zP (tAt T (lowT T)) = zP (tAt T' (lowT T'))
  · exact c
  · have a := low_first B n ((h _).mpr m') fun q => c q.symm
    have b := low_first B' n' ((h _).mp m) c
    omega
theorem bs_lM {T : List PT} (B : Bs T) {s t : Z2} (hs : PtS T s) (ht : PtS T t) : (s ≠ t → dt lM s ≠ dt lM t) ∧ -20000 ≤ dt lM s ∧ dt lM s ≤ 20000 := by
  obtain ⟨i, -, rfl⟩ := hs
  obtain ⟨j, -, rfl⟩ := ht
  have a := B.at' i
  have b := B.at' j
  rw [dt_lM, dt_lM]
  unfold zP
  dsimp only
  refine ⟨fun n q => n ?_, by omega, by omega⟩
  exact Prod.ext (by dsimp only; omega) (by dsimp only; omega)
theorem SR.hl (H : SR S S') (h : S ≠ []) : ∃ K V, HL S.flatten K V ∧ HL S'.flatten K V := by
  obtain ⟨B, B'⟩ := H.bs
  obtain ⟨n, n'⟩ := H.ne h
  have e : ∀ t, PtS S.flatten t ↔ PtS S'.flatten t := fun t => by
    rw [PtS_mem, PtS_mem]
    exact ⟨fun ⟨v, a, b⟩ => ⟨v, (H.mem v).mp a, b⟩, fun ⟨v, a, b⟩ => ⟨v, (H.mem v).mpr a, b⟩⟩
  have h0 : 0 < S.length := List.length_pos_iff.mpr h
  have c := H.2 0 h0
  have T : HuT lM (PtS S.flatten) (zP (tAt S.flatten (lowT S.flatten))) := by
    refine ⟨⟨⟨_, lowT_lt n, rfl⟩, fun t ht q => low_first B n ht q⟩, fun s t hs ht => (bs_lM B hs ht).1, ⟨fun i => zP (tAt S.flatten i), S.flatten.length, fun t => Iff.rfl⟩, ⟨20000, fun t ht => (bs_lM B ht ht).2⟩, ?_⟩
    refine nd_of c.cvx' fun k => ?_
    rw [e, PtS_mem]
    have l := c.len
    exact ⟨vR (S'.getD 0 []) k, mem_flat.mpr ⟨0, by rw [← H.1]; exact h0, mem_vR (List.length_pos_iff.mp (by omega)) k⟩, rfl⟩
  obtain ⟨K, V, L, V0, U⟩ := hull_ex T
  refine ⟨K, V, ⟨⟨B, n⟩, L, V0, U⟩, ⟨B', n'⟩, L, ?_, U.1, fun k => (e _).mp (U.2.1 k), fun k t ht => U.2.2 k t ((e t).mpr ht)⟩
  rw [V0]; exact low_two B B' n n' e
theorem HL.mem {T : List PT} {K : Nat} {V : Nat → Z2} (H : HL T K V) {L : List PT} (hl : L.length = K) (h : ∀ k, k < K → zP (L.getD k (0, 0)) = V k) : low L = 0 ∧ ∀ v, v ∈ L → -18 ≤ v.1.toInt ∧ v.1.toInt ≤ 18 ∧ -18 ≤ v.2.toInt ∧ v.2.toInt ≤ 18 := by
  have h3 := H.2.1.1.1
  have b : ∀ v, v ∈ L → -18 ≤ v.1.toInt ∧ v.1.toInt ≤ 18 ∧ -18 ≤ v.2.toInt ∧ v.2.toInt ≤ 18 := fun v hv => by
    obtain ⟨i, hi, e⟩ := mem_tAt hv
    have q := h i (by omega)
    have e' : L.getD i (0, 0) = v := e
    obtain ⟨j, hj, ej⟩ := H.2.2.2.2.1 i
    rw [e', ← ej] at q
    rw [zP_inj q]
    exact H.1.1.at' j
  refine ⟨low_nil (m := 18) (by decide) b (by omega) fun i h0 hi => ?_, b⟩
  rw [h 0 (by omega), h i (by omega)]
  exact H.2.1.2.1 i (by rw [Nat.mod_eq_of_lt (by omega)]; omega)
theorem vAt_low0 {L : List PT} (h : low L = 0) {k : Nat} (hk : k < L.length) : vAt L k = L.getD k (0, 0) := by
  unfold vAt
  rw [h, Nat.zero_add, if_pos hk]
/-- a shape's hull -/
theorem hull_same (H : SR S S') (h : S ≠ []) (h3 : S'.length ≤ 3) : hullP S.flatten = hullR S'.flatten ∧ (∃ m, HuE S'.flatten m) ∧ low (hullP S.flatten) = 0 ∧ (hullP S.flatten).length ≤ 18 := by
  obtain ⟨K, V, A, B⟩ := H.hl h
  have l := H.len18 h3
  have k1 := A.le
  obtain ⟨c1, c2⟩ := A.cls (by omega)
  obtain ⟨r1, r2⟩ := B.ref (by omega)
  exact ⟨list_same c1 r1 fun k hk => by rw [c2 k hk, r2 k hk], ⟨K, B.ends (by omega)⟩, (A.mem c1 c2).1, by omega⟩
end H2S
section SM
variable {A A' B B' : List PT}
/-- the polygon of a plain sum -/
theorem sm_all (HA : CP A A') (HB : CP B B') : PG 18 (sumP A B) ∧ low (sumP A B) = 0 ∧ Hul (sumP A B).length (zL (sumP A B)) (fun t => ∃ v u, t = za (zR A' v) (zR B' u)) := by
  obtain ⟨PA, sA, eA⟩ := HA.pg
  obtain ⟨PB, sB, eB⟩ := HB.pg
  obtain ⟨PV, K, ⟨hK, hgo⟩, len, ez⟩ := pg_sum PA PB (by decide)
  have R := merge_rnd PA.2.2 PB.2.2 hK hgo
  refine ⟨PV, low_sumW PA.bw PB.bw PA.2.2 PB.2.2 hK hgo, PV.2.2.1, fun k => ?_, fun k t ht => ?_⟩
  · rw [ez]
    unfold mV
    rw [eA, eB]
    exact ⟨_, _, rfl⟩
  · rw [ez]
    refine R.2.1 k t ?_
    obtain ⟨v, u, rfl⟩ := ht
    have hA := HA.len
    have hB := HB.len
    obtain ⟨p, hp⟩ := zR_back (V := A') sA v (by omega)
    obtain ⟨q, hq⟩ := zR_back (V := B') sB u (by omega)
    exact ⟨p, q, by rw [eA, eB, hp, hq]⟩
theorem nf_low (HA : CP A A') (HB : CP B B') : low (nfQ A B) = 0 := by
  obtain ⟨PA, -⟩ := HA.pg
  obtain ⟨PB, -⟩ := HB.ngt
  obtain ⟨-, K, ⟨hK, hgo⟩, -⟩ := pg_sum PA PB (by decide)
  exact low_sumW PA.bw PB.bw PA.2.2 PB.2.2 hK hgo
theorem sumT_pt {sg : Int32} (hA : SmV A) (hB : SmV B) (a0 : 0 < A.length) (b0 : 0 < B.length) (hs : sg = 1 ∨ sg = -1) : (∀ t, PtS (sumT A B sg) t ↔ ∃ v u, t = (if sg = 1 then za (zR A v) (zR B u) else zs (zR A v) (zR B u))) ∧ Bs (sumT A B sg) ∧ (sumT A B sg).length = A.length * B.length := by
  have pt : ∀ v u, zP ((vR A v).1 + sg * (vR B u).1, (vR A v).2 + sg * (vR B u).2) = (if sg = 1 then za (zR A v) (zR B u) else zs (zR A v) (zR B u)) := fun v u => by
    have a : B9 (vR A v) := hA.get _
    have b : B9 (vR B u) := hB.get _
    obtain ⟨a1, a2, a3, a4⟩ := a
    obtain ⟨b1, b2, b3, b4⟩ := b
    rcases hs with rfl | rfl
    · rw [if_pos rfl, Int32.one_mul, Int32.one_mul]
      unfold zR zP za
      dsimp only
      rw [i32_addE (by omega) (by omega) (by omega) (by omega), i32_addE (by omega) (by omega) (by omega) (by omega)]
    · rw [if_neg (by decide), show (-1 : Int32) = -(1) from rfl, Int32.neg_mul, Int32.neg_mul, Int32.one_mul, Int32.one_mul, ← Int32.sub_eq_add_neg, ← Int32.sub_eq_add_neg]
      unfold zR zP zs
      dsimp only
      rw [i32_subE (by omega) (by omega) (by omega) (by omega), i32_subE (by omega) (by omega) (by omega) (by omega)]
  refine ⟨fun t => ?_, fun w hw => ?_, by unfold sumT; rw [List.length_map, pre_len, Nat.add_zero]⟩
  · rw [PtS_mem]
    unfold sumT
    constructor
    · rintro ⟨w, hw, rfl⟩
      obtain ⟨ve, -, rfl⟩ := List.mem_map.mp hw
      exact ⟨ve.1, ve.2, pt _ _⟩
    · rintro ⟨v, u, rfl⟩
      refine ⟨_, List.mem_map.mpr ⟨(v % A.length, u % B.length), mem_pre.mpr ⟨Nat.mod_lt _ a0, Nat.mod_lt _ b0⟩, rfl⟩, ?_⟩
      rw [pt]
      dsimp only
      rw [zR_mod, zR_mod]
  · unfold sumT at hw
    obtain ⟨ve, -, rfl⟩ := List.mem_map.mp hw
    have p := pt ve.1 ve.2
    have a := zR_b hA ve.1
    have b := zR_b hB ve.2
    have p1 := congrArg Prod.fst p
    have p2 := congrArg Prod.snd p
    unfold zP at p1 p2
    dsimp only at p1 p2 ⊢
    rw [p1, p2]
    split
    · unfold za; dsimp only; omega
    · unfold zs; dsimp only; omega
theorem hl_of {T : List PT} {K : Nat} {V : Nat → Z2} (B : Bs T) (L : Low lM K V) (H : Hul K V (PtS T)) : HL T K V := by
  have n : T ≠ [] := by
    obtain ⟨i, hi, -⟩ := H.2.1 0
    exact List.length_pos_iff.mp (by omega)
  refine ⟨⟨B, n⟩, L, ?_, H⟩
  have m : PtS T (zP (tAt T (lowT T))) := ⟨_, lowT_lt n, rfl⟩
  by_cases c : V 0 = zP (tAt T (lowT T))
  · exact c
  · exfalso
    have a := low_first B n (H.2.1 0) c
    obtain ⟨v, hv⟩ := H.1.inner0 (p := zP (tAt T (lowT T))) (fun e => H.2.2 e _ m) (zs (0, 0) lM)
    rw [dt_neg, dt_neg] at hv
    have := L.le0 v
    omega
/-- a sum's corners -/
theorem sum_same (HA : CP A A') (HB : CP B B') {f : Int32} (hf : f = 0 ∨ f = 1) : sumP A (B.map (trP (if f = 1 then 2 else 0))) = hullR (sumT A' B' (1 - 2 * f)) ∧ (∃ m, HuE (sumT A' B' (1 - 2 * f)) m) ∧ low (sumP A (B.map (trP (if f = 1 then 2 else 0)))) = 0 ∧ (sumP A (B.map (trP (if f = 1 then 2 else 0)))).length ≤ 18 ∧ PG 18 (sumP A (B.map (trP (if f = 1 then 2 else 0)))) := by
  have hA := HA.len
  have hB := HB.len
  have done : ∀ (W : List PT) (sg : Int32), (sg = 1 ∨ sg = -1) → PG 18 W ∧ W.length ≤ 18 → low W = 0 → Hul W.length (zL W) (PtS (sumT A' B' sg)) → W = hullR (sumT A' B' sg) ∧ (∃ m, HuE (sumT A' B' sg) m) ∧ low W = 0 ∧ W.length ≤ 18 ∧ PG 18 W := fun W sg hs ⟨P, w18⟩ l0 H => by
    obtain ⟨-, b, len⟩ := sumT_pt HA.2.1 HB.2.1 (by omega) (by omega) hs
    have L := hl_of b P.2.2 H
    have le := L.le
    have m6 : A'.length * B'.length ≤ 6 * 6 := Nat.mul_le_mul (by omega) (by omega)
    obtain ⟨r1, r2⟩ := L.ref (by omega)
    have z : ∀ k, k < W.length → zP (W.getD k (0, 0)) = zL W k := fun k hk => by
      unfold zL
      rw [l0, Nat.zero_add]
      unfold zR
      rw [vR_lt hk]
    refine ⟨list_same rfl r1 fun k hk => by rw [z k hk, r2 k hk], ⟨_, L.ends (by omega)⟩, l0, w18, P⟩
  rcases hf with rfl | rfl
  · rw [if_neg (by decide), show (1 : Int32) - 2 * 0 = 1 by decide]
    have e : B.map (trP 0) = B := tr0
    rw [e]
    obtain ⟨P, l0, H⟩ := sm_all HA HB
    refine done _ 1 (Or.inl rfl) ⟨P, Nat.le_trans (sumGo_len _ _ _) (by omega)⟩ l0 ⟨H.1, fun k => ?_, fun k t ht => H.2.2 k t ?_⟩
    · rw [(sumT_pt HA.2.1 HB.2.1 (by omega) (by omega) (Or.inl rfl)).1]
      simp only [if_true]; exact H.2.1 k
    · rw [(sumT_pt HA.2.1 HB.2.1 (by omega) (by omega) (Or.inl rfl)).1] at ht
      simp only [if_true] at ht
      exact ht
  · rw [if_pos rfl, show (1 : Int32) - 2 * 1 = -1 by decide]
    obtain ⟨P, -, H, -⟩ := nf_all HA HB
    refine done (nfQ A B) (-1) (Or.inr rfl) ⟨P, Nat.le_trans (sumGo_len _ _ _) (by rw [List.length_map]; omega)⟩ (nf_low HA HB) ⟨H.1, fun k => ?_, fun k t ht => H.2.2 k t ?_⟩
    · rw [(sumT_pt HA.2.1 HB.2.1 (by omega) (by omega) (Or.inr rfl)).1]
      obtain ⟨v, u, s, ⟨h1, h2⟩, e⟩ := H.2.1 k
      refine ⟨v, u, ?_⟩
      rw [if_neg (by decide), e]
      unfold za zs
      apply Prod.ext <;> dsimp only <;> omega
    · rw [(sumT_pt HA.2.1 HB.2.1 (by omega) (by omega) (Or.inr rfl)).1] at ht
      obtain ⟨v, u, e⟩ := ht
      rw [if_neg (by decide)] at e
      refine ⟨v, u, (0, 0), ⟨Or.inl rfl, Or.inl rfl⟩, ?_⟩
      rw [e]
      unfold za zs
      apply Prod.ext <;> dsimp only <;> omega
end SM
