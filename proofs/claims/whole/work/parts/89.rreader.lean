/-! the reference reads a shape -/
theorem MoZ.st {h : AH} {z : Sc} {k : MK} (H : MoZ h z k) {i : Nat} (hi : i < 580) {v : Int32} {K : AH → Prop} (c : K (h.set 314 (.inl (0, k.1.set i v)))) : astI h (some 314) 0 (Int32.ofNat i) v K := by
  refine ⟨_, _, rfl, H.2.1.1, i32_nn (by omega), by rw [i32_n (by omega), H.2.1.2]; exact hi, ?_⟩
  rw [i32_n (by omega)]; exact c
theorem MoZ.upd {h : AH} {z : Sc} {k : MK} (H : MoZ h z k) {s : List Int32} (hs : s.length = 580) : MoZ (h.set 314 (.inl (0, s))) z (s, k.2) := by
  obtain ⟨h0, h1, h2, h3, h4, h5, h6, h7, h8, h9⟩ := H
  have f : Fr 314 315 h (h.set 314 (.inl (0, s))) := Fr.set (by omega) (by omega)
  exact ⟨(f.2 _ (by omega)).trans h0, ⟨gs h1.1, hs⟩, ⟨(f.2 _ (by omega)).trans h2.1, h2.2⟩, ⟨(f.2 _ (by omega)).trans h3.1, h3.2⟩, h4.fr f (by omega), h5.fr f (by omega), h6.fr f (by omega), h7.fr f (by omega), h8.fr f (by omega), h9.fr f (by omega)⟩
theorem MoZ.set1 {h : AH} {z : Sc} {k : MK} (H : MoZ h z k) (i : Nat) (v : Int32) : MoZ (h.set 314 (.inl (0, k.1.set i v))) z (k.1.set i v, k.2) := H.upd (by rw [List.length_set]; exact H.2.1.2)
theorem fr314 {h : AH} {x : AE} : Fr 313 315 h (h.set 314 x) := Fr.set (by omega) (by omega)
theorem sA_set {k : MK} (hk : k.1.length = 580) {i j : Nat} {v : Int32} (hi : i < 580) : sA (k.1.set i v, k.2) j = if j = i then v else sA k j := by
  unfold sA
  rw [getD_set, hk]
  by_cases c : j = i
  · subst c; rw [if_pos ⟨rfl, hi⟩, if_pos rfl]
  · rw [if_neg (fun q => c q.1.symm), if_neg c]
theorem TxR.s {k : MK} {cs s : List Int32} (T : TxR k cs) : TxR (s, k.2) cs := T
def PcB (k : MK) (p : Nat) (V : List PT) : Prop := sA k (501 + p) = Int32.ofNat V.length ∧ V.length ≤ 6 ∧ ∀ v, v < V.length → (sA k (504 + 12 * p + 2 * v), sA k (505 + 12 * p + 2 * v)) = V.getD v (0, 0)
theorem Blk.pc {k : MK} {S : SH} (B : Blk k 500 S) {p : Nat} (hp : p < S.length) : PcB k p (S.getD p []) := by
  obtain ⟨b1, b2, b3⟩ := B.2.2.2 p hp
  exact ⟨b1, b2.2, b3⟩
section RS
variable {E : EV} {h : AH} {z : Sc} {k : MK} {cs : List Int32} {la : Int32}
theorem pc_vertices (H : MoZ h z k) {p : Nat} {V : List PT} (B : PcB k p V) (hp : p < 3) : sX11_vertices E [aP (some 313), aI 500, aI (Int32.ofNat p)] h (kI fun r h' => r = Int32.ofNat V.length ∧ h' = h) := by
  refine eX11_vertices ?_
  unfold PX11_vertices_0
  refine (rdP_iff H.1).mpr ⟨_, rfl, ?_⟩
  rw [show (500 : Int32) = Int32.ofNat 500 from rfl, ix_v]
  exact H.ld (by omega) ⟨_, rfl, B.1, rfl⟩
theorem pc_xOf (H : MoZ h z k) {p : Nat} {V : List PT} (B : PcB k p V) (hp : p < 3) (hV : 0 < V.length) {v : Nat} (hv : v < 1000) : sX11_xOf E [aP (some 313), aI 500, aI (Int32.ofNat p), aI (Int32.ofNat v)] h (kI fun r h' => r = (vR V v).1 ∧ h' = h) := by
  obtain ⟨b1, b2, b3⟩ := B
  have hm : v % V.length < V.length := Nat.mod_lt _ (by omega)
  refine eX11_xOf ?_
  unfold PX11_xOf_0
  refine (rdP_iff H.1).mpr ⟨_, rfl, (rdP_iff H.1).mpr ⟨_, rfl, ?_⟩⟩
  rw [show (500 : Int32) = Int32.ofNat 500 from rfl, ix_v]
  refine H.ld (by omega) ⟨?_, ?_⟩
  · rw [b1]
    intro q
    have := i32_inj (n := 0) (by omega) (by omega) q
    omega
  · rw [b1, i32_rem (by omega) (by omega), ix_x]
    exact H.ld (by omega) ⟨_, rfl, congrArg Prod.fst (b3 _ hm), rfl⟩
theorem pc_yOf (H : MoZ h z k) {p : Nat} {V : List PT} (B : PcB k p V) (hp : p < 3) (hV : 0 < V.length) {v : Nat} (hv : v < 1000) : sX11_yOf E [aP (some 313), aI 500, aI (Int32.ofNat p), aI (Int32.ofNat v)] h (kI fun r h' => r = (vR V v).2 ∧ h' = h) := by
  obtain ⟨b1, b2, b3⟩ := B
  have hm : v % V.length < V.length := Nat.mod_lt _ (by omega)
  refine eX11_yOf ?_
  unfold PX11_yOf_0
  refine (rdP_iff H.1).mpr ⟨_, rfl, (rdP_iff H.1).mpr ⟨_, rfl, ?_⟩⟩
  rw [show (500 : Int32) = Int32.ofNat 500 from rfl, ix_v]
  refine H.ld (by omega) ⟨?_, ?_⟩
  · rw [b1]
    intro q
    have := i32_inj (n := 0) (by omega) (by omega) q
    omega
  · rw [b1, i32_rem (by omega) (by omega), ix_y]
    exact H.ld (by omega) ⟨_, rfl, congrArg Prod.snd (b3 _ hm), rfl⟩
theorem m11_isPiece (H : MoZ h z k) {p : Nat} {V : List PT} (B : PcB k p V) (hp : p < 3) (hV : 0 < V.length) : sX11_isPiece E [aP (some 313), aI (Int32.ofNat p)] h (kI fun r h' => r = ifC (pieceR V) 1 0 ∧ h' = h) := by
  have h6 := B.2.1
  refine uX11_isPiece (fun m h' l0 l1 l2 l3 => ∃ e, m = (V.length - e) * 20 + 10 ∧ h' = h ∧ l0 = some 313 ∧ l1 = Int32.ofNat p ∧ l2 = Int32.ofNat V.length ∧ l3 = Int32.ofNat e ∧ e ≤ V.length ∧ ∀ e', e' < e → ∀ v, e' + 2 ≤ v → v < e' + V.length → ((vR V (e' + 1)).2 - (vR V e').2) * ((vR V v).1 - (vR V e').1) < ((vR V (e' + 1)).1 - (vR V e').1) * ((vR V v).2 - (vR V e').2)) (fun m h' l0 l1 l2 l3 l4 l5 l6 => ∃ e v, m = (V.length - e) * 20 + (e + V.length - v) ∧ h' = h ∧ l0 = some 313 ∧ l1 = Int32.ofNat p ∧ l2 = Int32.ofNat V.length ∧ l3 = Int32.ofNat e ∧ l4 = (vR V (e + 1)).1 - (vR V e).1 ∧ l5 = (vR V (e + 1)).2 - (vR V e).2 ∧ l6 = Int32.ofNat v ∧ e < V.length ∧ e + 2 ≤ v ∧ v ≤ e + V.length + 2 ∧ (∀ e', e' < e → ∀ v, e' + 2 ≤ v → v < e' + V.length → ((vR V (e' + 1)).2 - (vR V e').2) * ((vR V v).1 - (vR V e').1) < ((vR V (e' + 1)).1 - (vR V e').1) * ((vR V v).2 - (vR V e').2)) ∧ ∀ v', e + 2 ≤ v' → v' < v → v' < e + V.length → ((vR V (e + 1)).2 - (vR V e).2) * ((vR V v').1 - (vR V e).1) < ((vR V (e + 1)).1 - (vR V e).1) * ((vR V v').2 - (vR V e).2)) ?_ ?_ ?_
  · unfold PX11_isPiece_0
    exact cvI H.1 (pc_vertices H B hp) ⟨_, 0, rfl, rfl, rfl, rfl, rfl, rfl, by omega, fun e' he => absurd he (by omega)⟩
  · rintro m h' l0 l1 l2 l3 ⟨e, rfl, rfl, rfl, rfl, rfl, rfl, he, ih⟩
    unfold PX11_isPiece_11
    refine ⟨fun c => ?_, fun c => ?_⟩
    · have c := (i32_le (by omega) (by omega)).mp c
      exact ⟨_, rfl, (ifC_pos (show pieceR V from fun e he v h1 h2 => ih e (by omega) v h1 h2)).symm, rfl⟩
    · have c := mt (i32_le (i := V.length) (j := e) (by omega) (by omega)).mpr c
      have e1 : Int32.ofNat e + 1 = Int32.ofNat (e + 1) := i32_s _
      rw [e1]
      refine cvI H.1 (pc_xOf H B hp hV (by omega)) (cvI H.1 (pc_xOf H B hp hV (by omega)) ?_)
      rintro _ rfl
      refine cvI H.1 (pc_yOf H B hp hV (by omega)) (cvI H.1 (pc_yOf H B hp hV (by omega)) ?_)
      rintro _ rfl _ rfl
      exact ⟨_, by omega, e, e + 2, rfl, rfl, rfl, rfl, rfl, rfl, rfl, rfl, by rw [Int32.ofNat_add]; rfl, by omega, by omega, by omega, ih, fun v' h1 h2 => absurd h1 (by omega)⟩
  · rintro m h' l0 l1 l2 l3 l4 l5 l6 ⟨e, v, rfl, rfl, rfl, rfl, rfl, rfl, rfl, rfl, rfl, he, hv, hv2, ih, iv⟩
    unfold PX11_isPiece_67
    have es : Int32.ofNat e + Int32.ofNat V.length = Int32.ofNat (e + V.length) := by rw [Int32.ofNat_add]
    rw [es]
    refine ⟨fun c => ?_, fun c => ?_⟩
    · have c := (i32_le (by omega) (by omega)).mp c
      refine ⟨_, by omega, e + 1, rfl, rfl, rfl, rfl, rfl, i32_s _, by omega, fun e' he' v' h1 h2 => ?_⟩
      by_cases q : e' = e
      · subst q; exact iv v' h1 (by omega) h2
      · exact ih e' (by omega) v' h1 h2
    · have c := mt (i32_le (i := e + V.length) (j := v) (by omega) (by omega)).mpr c
      refine cvI H.1 (pc_yOf H B hp hV (by omega)) (cvI H.1 (pc_yOf H B hp hV (by omega)) (cvI H.1 (pc_xOf H B hp hV (by omega)) (cvI H.1 (pc_xOf H B hp hV (by omega)) ⟨fun c2 => ?_, fun c2 => ?_⟩)))
      · refine ⟨_, by omega, e, v + 1, rfl, rfl, rfl, rfl, rfl, rfl, rfl, rfl, i32_s _, he, by omega, by omega, ih, fun v' h1 h2 h3 => ?_⟩
        by_cases q : v' = v
        · subst q; exact c2
        · exact iv v' h1 (by omega) h3
      · exact ⟨_, rfl, (ifC_neg (fun q : pieceR V => c2 (q e he v hv (by omega)))).symm, rfl⟩
def nuS (cs : List Int32) (s : PW) : PW := (if s.2 = true then s.1 else dgP cs (nmQ cs s.1), s.2 || !dgB cs (nmQ cs s.1))
theorem nu_t {q : Nat} : nuS cs (q, true) = (q, true) := rfl
theorem nu_f {q : Nat} : nuS cs (q, false) = (dgP cs (nmQ cs q), !dgB cs (nmQ cs q)) := rfl
theorem vx_seq {q : Nat} : nuS cs (tkS cs 44 (nuS cs (q, false))) = (vxP cs q, !vxB cs q) := by
  rw [nu_f]
  unfold vxP vxB vxC
  cases e1 : dgB cs (nmQ cs q) with
  | false =>
    show nuS cs (tkS cs 44 (_, true)) = _
    rw [tk_t, nu_t]
    simp
  | true =>
    show nuS cs (tkS cs 44 (dgP cs (nmQ cs q), false)) = _
    rw [tk_f]
    cases e2 : decide (cur cs (skp cs (dgP cs (nmQ cs q))) = 44) with
    | false =>
      show nuS cs (_, true) = _
      rw [nu_t]
      simp [vxM]
    | true =>
      show nuS cs (vxM cs q, false) = _
      rw [nu_f]
      simp
theorem Blk.keep {k' : MK} {S : SH} (B : Blk k 500 S) (hS : S.length < 3) (e : ∀ i, i < 504 + 12 * S.length → i ≠ 501 + S.length → sA k' i = sA k i) : Blk k' 500 S := by
  obtain ⟨b0, b1, b2, b3⟩ := B
  refine ⟨b0, b1, by rw [e _ (by omega) (by omega)]; exact b2, fun p hp => ?_⟩
  obtain ⟨c1, c2, c3⟩ := b3 p hp
  refine ⟨by rw [e _ (by omega) (by omega)]; exact c1, c2, fun v hv => ?_⟩
  rw [e _ (by omega) (by omega), e _ (by omega) (by omega)]
  exact c3 v hv
theorem pcGo_end {q t : Nat} {V : List PT} (c : cur cs (skp cs q) = 59) : pcGo cs t q V = pcEnd cs q V := by
  cases t with
  | zero => rfl
  | succ t => rw [pcGo_succ, if_pos c, pcEnd_skp]
theorem RdZ.s {p : Nat} {w : Bool} {s : List Int32} (H : RdZ h k p w la) (hs : s.length = 580) : RdZ (h.set 314 (.inl (0, s))) (s, k.2) p w la := by
  obtain ⟨z, H, r⟩ := H
  exact ⟨z, H.upd hs, r⟩
theorem RdZ.len {p : Nat} {w : Bool} (H : RdZ h k p w la) : k.1.length = 580 := by
  obtain ⟨z, H, r⟩ := H
  exact H.2.1.2
theorem m11_readsPiece (T : TxR k cs) {q0 : Nat} (H : RdZ h k q0 false la) {S : SH} (B : Blk k 500 S) (hS : S.length < 3) : sX11_readsPiece E [aP (some 313)] h (kV fun h' => ∃ s', RdZ h' (s', k.2) (pcGo cs 6 q0 []).2.1 (!(pcGo cs 6 q0 []).1) la ∧ (∀ i, i < 500 → s'.getD i 0 = k.1.getD i 0) ∧ Blk (s', k.2) 500 (if (pcGo cs 6 q0 []).1 = true then S ++ [(pcGo cs 6 q0 []).2.2] else S) ∧ (SmV (pcGo cs 6 q0 []).2.2 ∧ ((pcGo cs 6 q0 []).1 = true → cvxB (pcGo cs 6 q0 []).2.2 = true)) ∧ Fr 313 315 h h') := by
  generalize hR : pcGo cs 6 q0 [] = R
  refine uX11_readsPiece (fun m h' l0 l1 l2 => ∃ q w dn V s', m = (if w = true then 0 else if dn = true then 0 else 10 - V.length) ∧ l0 = some 313 ∧ l1 = Int32.ofNat S.length ∧ l2 = bI dn ∧ RdZ h' (s', k.2) q w la ∧ (∀ i, i < 500 → s'.getD i 0 = k.1.getD i 0) ∧ Blk (s', k.2) 500 S ∧ PcB (s', k.2) S.length V ∧ SmV V ∧ Fr 313 315 h h' ∧ (w = true → R = (false, q, V)) ∧ (w = false → dn = true → R = (true, q, V) ∧ cvxB V = true ∧ 2 < V.length) ∧ (w = false → dn = false → pcGo cs (6 - V.length) q V = R)) ?_ ?_
  · obtain ⟨z, H', ha, hb, hl, hp⟩ := id H
    unfold PX11_readsPiece_0
    refine (rdP_iff H'.1).mpr ⟨_, rfl, H'.ld (i := 500) (by omega) ((rdP_iff H'.1).mpr ⟨_, rfl, ?_⟩)⟩
    rw [B.2.2.1, show (501 : Int32) + Int32.ofNat S.length = Int32.ofNat (501 + S.length) by rw [Int32.ofNat_add]; rfl]
    refine H'.st (by omega) ?_
    have len := H'.2.1.2
    refine ⟨_, q0, false, false, [], _, rfl, rfl, rfl, rfl, RdZ.s H (by rw [List.length_set]; exact len), fun i hi => ?_, B.keep hS fun i h1 h2 => ?_, ⟨?_, by simp, fun v hv => absurd hv (by simp)⟩, fun v hv => absurd hv (by simp), fr314, fun q => absurd q (by decide), fun _ q => absurd q (by decide), fun _ _ => hR⟩
    · exact (sA_set (j := i) len (by omega)).trans (if_neg (by omega))
    · exact (sA_set (j := i) len (by omega)).trans (if_neg (by omega))
    · exact (sA_set (j := 501 + S.length) len (by omega)).trans (if_pos rfl)
  · rintro m h' l0 l1 l2 ⟨q, w, dn, V, s', rfl, rfl, rfl, rfl, R1, hs, BS, BV, hV, f, c1, c2, c3⟩
    obtain ⟨z, H', ha, hb, hl, hp⟩ := id R1
    have h6 := BV.2.1
    have len : s'.length = 580 := H'.2.1.2
    have exit : (w = true ∨ dn = true) → PX11_readsPiece_205 E (kV fun h' => ∃ s', RdZ h' (s', k.2) R.2.1 (!R.1) la ∧ (∀ i, i < 500 → s'.getD i 0 = k.1.getD i 0) ∧ Blk (s', k.2) 500 (if R.1 = true then S ++ [R.2.2] else S) ∧ (SmV R.2.2 ∧ (R.1 = true → cvxB R.2.2 = true)) ∧ Fr 313 315 h h') h' (some 313) := fun hx => by
      unfold PX11_readsPiece_205
      refine (rdP_iff H'.1).mpr ⟨_, rfl, H'.ld (i := 500) (by omega) ((rdI_iff H'.1).mpr ⟨_, rfl, fun c => ?_, fun c => ?_⟩)⟩
      · have w0 : w = false := bI0.mp (hb.symm.trans c)
        obtain ⟨eR, cv, n3⟩ := c2 w0 (hx.resolve_left (by rw [w0]; decide))
        unfold PX11_readsPiece_226
        refine H'.st (i := 500) (by omega) ?_
        rw [eR, if_pos rfl]
        have g : ∀ j, sA (s'.set 500 (sA (s', k.2) 500 + 1), k.2) j = if j = 500 then sA (s', k.2) 500 + 1 else sA (s', k.2) j := fun j => sA_set (k := (s', k.2)) len (by omega)
        refine ⟨rfl, _, by rw [w0] at R1; exact R1.s (by rw [List.length_set]; exact len), fun i hi => ((g i).trans (if_neg (by omega))).trans (hs i hi), ⟨by omega, by rw [List.length_append, List.length_singleton]; omega, ?_, fun p hp => ?_⟩, ⟨hV, fun _ => cv⟩, f.trans fr314⟩
        · rw [g, if_pos rfl, BS.2.2.1, List.length_append, List.length_singleton, i32_s]
        · rw [List.length_append, List.length_singleton] at hp
          rw [getD_app]
          by_cases cp : p < S.length
          · rw [if_pos cp]
            obtain ⟨d1, d2, d3⟩ := BS.2.2.2 p cp
            refine ⟨by rw [g, if_neg (by omega)]; exact d1, d2, fun v hv => ?_⟩
            rw [g, g, if_neg (by omega), if_neg (by omega)]; exact d3 v hv
          · have : p = S.length := by omega
            subst this
            rw [if_neg cp, if_pos rfl]
            refine ⟨by rw [g, if_neg (by omega)]; exact BV.1, ⟨by show 1 ≤ V.length; omega, h6⟩, fun v hv => ?_⟩
            rw [g, g, if_neg (by omega), if_neg (by omega)]; exact BV.2.2 v hv
      · have w1 : w = true := bI_true fun q => c (hb.trans q)
        have eR := c1 w1
        unfold PX11_readsPiece_226
        refine H'.st (i := 500) (by omega) ?_
        rw [eR, if_neg Bool.false_ne_true, Int32.add_zero]
        have g : ∀ j, sA (s'.set 500 (sA (s', k.2) 500), k.2) j = sA (s', k.2) j := fun j => by
          rw [sA_set (k := (s', k.2)) len (by omega)]
          split
          · rename_i e; rw [e]
          · rfl
        exact ⟨rfl, _, by rw [w1] at R1; exact R1.s (by rw [List.length_set]; exact len), fun i hi => (g i).trans (hs i hi), BS.keep hS fun i _ _ => g i, ⟨hV, fun q => absurd q Bool.false_ne_true⟩, f.trans fr314⟩
    unfold PX11_readsPiece_22
    refine (rdI_iff H'.1).mpr ⟨_, rfl, fun c => exit (Or.inl (bI_true fun q => c (hb.trans q))), fun c => ⟨fun cd => exit (Or.inr (bI_true cd)), fun cd => ?_⟩⟩
    have w0 : w = false := bI0.mp (hb.symm.trans c)
    have d0 : dn = false := bI0.mp cd
    subst w0 d0
    have hgo := c3 rfl rfl
    refine cvVq H'.1 (m11_skip T.s R1) fun h3 q3 => ?_
    have R3 := q3.1
    rw [if_neg (by decide)] at R3
    obtain ⟨z3, H3, ha3, hb3, hl3, hp3⟩ := id R3
    have f3 : Fr 313 315 h h3 := f.trans (q3.2.weak (by omega) (by omega))
    refine (rdP_iff H3.1).mpr ⟨_, rfl, ?_⟩
    rw [show (501 : Int32) + Int32.ofNat S.length = Int32.ofNat (501 + S.length) by rw [Int32.ofNat_add]; rfl]
    refine H3.ld (by omega) (cvI H3.1 (m11_here T.s H3 ha3 hp3) ?_)
    rw [BV.1]
    have mm : (if false = true then 0 else if false = true then 0 else 10 - V.length) = 10 - V.length := rfl
    -- fails here, at skp q
    have fail : R = (false, skp cs q, V) → PX11_readsPiece_74 E (kV fun h' => ∃ s', RdZ h' (s', k.2) R.2.1 (!R.1) la ∧ (∀ i, i < 500 → s'.getD i 0 = k.1.getD i 0) ∧ Blk (s', k.2) 500 (if R.1 = true then S ++ [R.2.2] else S) ∧ (SmV R.2.2 ∧ (R.1 = true → cvxB R.2.2 = true)) ∧ Fr 313 315 h h') (fun h' l0 l1 l2 => ∃ m', m' < (if false = true then 0 else if false = true then 0 else 10 - V.length) ∧ ∃ q w dn V s', m' = (if w = true then 0 else if dn = true then 0 else 10 - V.length) ∧ l0 = some 313 ∧ l1 = Int32.ofNat S.length ∧ l2 = bI dn ∧ RdZ h' (s', k.2) q w la ∧ (∀ i, i < 500 → s'.getD i 0 = k.1.getD i 0) ∧ Blk (s', k.2) 500 S ∧ PcB (s', k.2) S.length V ∧ SmV V ∧ Fr 313 315 h h' ∧ (w = true → R = (false, q, V)) ∧ (w = false → dn = true → R = (true, q, V) ∧ cvxB V = true ∧ 2 < V.length) ∧ (w = false → dn = false → pcGo cs (6 - V.length) q V = R)) h3 (some 313) (Int32.ofNat S.length) := fun eR => by
      unfold PX11_readsPiece_74 PX11_readsPiece_75
      refine ⟨fun q => absurd rfl q, fun _ => ?_⟩
      unfold PX11_readsPiece_86
      have H4 := H3.set (zAt z3 (zT z3).1 (bI true))
      refine ⟨Or.inr rfl, (wr_iff H3.1).mpr ⟨Nat.le_of_ble_eq_true rfl, (rdI_iff H4.1).mpr ⟨_, rfl, fun _ => ?_, fun q => absurd rfl q⟩⟩⟩
      unfold PX11_readsPiece_103
      refine (wr_iff H4.1).mpr ⟨Nat.le_of_ble_eq_true rfl, 0, by rw [mm]; omega, skp cs q, true, false, V, s', rfl, rfl, rfl, rfl, ?_, hs, BS, BV, hV, f3.trans ((fr313.trans fr313).weak (by omega) (by omega)), fun _ => eR, fun q => absurd q (by decide), fun q => absurd q (by decide)⟩
      exact H4.rdz (k := (s', k.2)) (la := la) (skp cs q) true hp3 (a := (zT z3).1 + 0) (b := bI true) (by rw [ha3, Int32.add_zero]) rfl hl3
    refine ⟨fun c59 => ?_, fun c59 => ?_⟩
    · -- a vertex
      have t122 : ∀ (b : Bool), b = decide (V.length = 6) → PX11_readsPiece_122 E (kV fun h' => ∃ s', RdZ h' (s', k.2) R.2.1 (!R.1) la ∧ (∀ i, i < 500 → s'.getD i 0 = k.1.getD i 0) ∧ Blk (s', k.2) 500 (if R.1 = true then S ++ [R.2.2] else S) ∧ (SmV R.2.2 ∧ (R.1 = true → cvxB R.2.2 = true)) ∧ Fr 313 315 h h') (fun h' l0 l1 l2 => ∃ m', m' < (if false = true then 0 else if false = true then 0 else 10 - V.length) ∧ ∃ q w dn V s', m' = (if w = true then 0 else if dn = true then 0 else 10 - V.length) ∧ l0 = some 313 ∧ l1 = Int32.ofNat S.length ∧ l2 = bI dn ∧ RdZ h' (s', k.2) q w la ∧ (∀ i, i < 500 → s'.getD i 0 = k.1.getD i 0) ∧ Blk (s', k.2) 500 S ∧ PcB (s', k.2) S.length V ∧ SmV V ∧ Fr 313 315 h h' ∧ (w = true → R = (false, q, V)) ∧ (w = false → dn = true → R = (true, q, V) ∧ cvxB V = true ∧ 2 < V.length) ∧ (w = false → dn = false → pcGo cs (6 - V.length) q V = R)) h3 (some 313) (Int32.ofNat S.length) (bI false) (Int32.ofNat V.length) (some 313) (bI b) := fun b eb => by
        unfold PX11_readsPiece_122
        have R4 : RdZ _ (s', k.2) (skp cs q) b la := H3.rdz (k := (s', k.2)) (la := la) (skp cs q) b hp3 (a := (zT z3).1) (b := bI b) ha3 rfl hl3
        refine ⟨bI01, (wr_iff H3.1).mpr ⟨Nat.le_of_ble_eq_true rfl, ?_⟩⟩
        obtain ⟨_, g4⟩ := R4.ad
        refine cvIq g4 (m11_number T.s R4) fun x2 h5 q5 => ?_
        have R5 : RdZ h5 (s', k.2) (nuS cs (skp cs q, b)).1 (nuS cs (skp cs q, b)).2 la := q5.2.1
        obtain ⟨_, g5⟩ := R5.ad
        refine cvVq g5 (m11_takes T.s R5 (by decide)) fun h6' q6 => ?_
        have R6 : RdZ h6' (s', k.2) (tkS cs 44 (nuS cs (skp cs q, b))).1 (tkS cs 44 (nuS cs (skp cs q, b))).2 la := q6.1
        obtain ⟨_, g6⟩ := R6.ad
        refine cvIq g6 (m11_number T.s R6) fun x7 h8 q8 => ?_
        have R8 : RdZ h8 (s', k.2) (nuS cs (tkS cs 44 (nuS cs (skp cs q, b)))).1 (nuS cs (tkS cs 44 (nuS cs (skp cs q, b)))).2 la := q8.2.1
        have f8 : Fr 313 315 h h8 := f3.trans ((((fr313.trans q5.2.2).trans q6.2).trans q8.2.2).weak (by omega) (by omega))
        obtain ⟨z8, H8, ha8, hb8, hl8, hp8⟩ := id R8
        by_cases cb : V.length = 6
        · have b1 : b = true := by rw [eb, decide_eq_true cb]
          subst b1
          have e8 : nuS cs (tkS cs 44 (nuS cs (skp cs q, true))) = (skp cs q, true) := rfl
          rw [e8] at R8
          rw [cb] at hgo
          have eR : R = (false, skp cs q, V) := by
            rw [← hgo]; show pcEnd cs q V = _
            unfold pcEnd; rw [if_neg c59]
          refine (rdI_iff H8.1).mpr ⟨_, rfl, fun _ => ⟨0, by rw [mm]; omega, skp cs q, true, false, V, s', rfl, rfl, rfl, rfl, R8, hs, BS, BV, hV, f8, fun _ => eR, fun q => absurd q (by decide), fun q => absurd q (by decide)⟩, fun c8 => ?_⟩
          rw [e8] at hb8
          exact absurd (show (1 : Int32) = 0 from hb8.symm.trans c8) (by decide)
        · have b0 : b = false := by rw [eb, decide_eq_false cb]
          subst b0
          rw [vx_seq] at R8 hb8 ha8 hp8
          obtain ⟨t, ht⟩ : ∃ t, 6 - V.length = t + 1 := ⟨5 - V.length, by omega⟩
          rw [ht, pcGo_succ, if_neg c59] at hgo
          refine (rdI_iff H8.1).mpr ⟨_, rfl, fun c8 => ?_, fun c8 => ?_⟩
          · have hB : (!vxB cs (skp cs q)) = true := bI_true fun q => c8 (hb8.trans q)
            have hB0 : vxB cs (skp cs q) = false := by simpa using hB
            rw [hB0, if_neg (by decide)] at hgo
            rw [hB] at R8
            exact ⟨0, by rw [mm]; omega, _, true, false, V, s', rfl, rfl, rfl, rfl, R8, hs, BS, BV, hV, f8, fun _ => hgo.symm, fun q => absurd q (by decide), fun q => absurd q (by decide)⟩
          · have hB : (!vxB cs (skp cs q)) = false := bI0.mp (hb8.symm.trans c8)
            have hB1 : vxB cs (skp cs q) = true := by simpa using hB
            rw [hB1, if_pos rfl] at hgo
            rw [hB] at R8 hb8
            have bs := hB1
            unfold vxB vxC at bs
            simp only [Bool.and_eq_true] at bs
            obtain ⟨⟨b1, b2⟩, b3⟩ := bs
            have ex : x2 = nmV cs (skp cs q) := q5.1 rfl b1
            have s5 : nuS cs (skp cs q, false) = (dgP cs (nmQ cs (skp cs q)), false) := by rw [nu_f, b1]; rfl
            have s6 : tkS cs 44 (dgP cs (nmQ cs (skp cs q)), false) = (vxM cs (skp cs q), false) := by rw [tk_f, b2]; rfl
            have ey : x7 = nmV cs (vxM cs (skp cs q)) := by
              have := q8.1
              have e6 : tkS cs 44 (nuS cs (skp cs q, false)) = (vxM cs (skp cs q), false) := by rw [s5, s6]
              have a1 : (tkS cs 44 (nuS cs (skp cs q, false))).1 = vxM cs (skp cs q) := by rw [e6]
              have a2 : (tkS cs 44 (nuS cs (skp cs q, false))).2 = false := by rw [e6]
              have this : (tkS cs 44 (nuS cs (skp cs q, false))).2 = false → dgB cs (nmQ cs (tkS cs 44 (nuS cs (skp cs q, false))).1) = true → x7 = nmV cs (tkS cs 44 (nuS cs (skp cs q, false))).1 := this
              rw [a1] at this
              exact this a2 b3
            have i1 : (504 : Int32) + 12 * Int32.ofNat S.length + 2 * Int32.ofNat V.length = Int32.ofNat (504 + 12 * S.length + 2 * V.length) := by
              rw [Int32.ofNat_add, Int32.ofNat_add, Int32.ofNat_mul, Int32.ofNat_mul]; rfl
            have i2 : (505 : Int32) + 12 * Int32.ofNat S.length + 2 * Int32.ofNat V.length = Int32.ofNat (505 + 12 * S.length + 2 * V.length) := by
              rw [Int32.ofNat_add, Int32.ofNat_add, Int32.ofNat_mul, Int32.ofNat_mul]; rfl
            have i3 : (501 : Int32) + Int32.ofNat S.length = Int32.ofNat (501 + S.length) := by rw [Int32.ofNat_add]; rfl
            rw [i1, i2, i3]
            refine (rdP_iff H8.1).mpr ⟨_, rfl, H8.st (by omega) ?_⟩
            have H9 := H8.set1 (504 + 12 * S.length + 2 * V.length) x2
            refine (rdP_iff H9.1).mpr ⟨_, rfl, H9.st (by omega) ?_⟩
            have H10 := H9.set1 (505 + 12 * S.length + 2 * V.length) x7
            refine (rdP_iff H10.1).mpr ⟨_, rfl, H10.ld (by omega) (H10.st (by omega) ?_)⟩
            have R9 := R8.s (s := s'.set (504 + 12 * S.length + 2 * V.length) x2) (by rw [List.length_set]; exact len)
            have R10 := R9.s (s := (s'.set (504 + 12 * S.length + 2 * V.length) x2).set (505 + 12 * S.length + 2 * V.length) x7) (by rw [List.length_set, List.length_set]; exact len)
            have l1 : (s'.set (504 + 12 * S.length + 2 * V.length) x2).length = 580 := by rw [List.length_set]; exact len
            have l2 : ((s'.set (504 + 12 * S.length + 2 * V.length) x2).set (505 + 12 * S.length + 2 * V.length) x7).length = 580 := by rw [List.length_set, List.length_set]; exact len
            have g10 : ∀ j, sA ((s'.set (504 + 12 * S.length + 2 * V.length) x2).set (505 + 12 * S.length + 2 * V.length) x7, k.2) j = if j = 505 + 12 * S.length + 2 * V.length then x7 else if j = 504 + 12 * S.length + 2 * V.length then x2 else sA (s', k.2) j := fun j => by
              rw [sA_set (k := (_, k.2)) l1 (by omega), sA_set (k := (s', k.2)) len (by omega)]
            have ec : sA ((s'.set (504 + 12 * S.length + 2 * V.length) x2).set (505 + 12 * S.length + 2 * V.length) x7, k.2) (501 + S.length) + 1 = Int32.ofNat (V.length + 1) := by
              rw [g10, if_neg (by omega), if_neg (by omega), BV.1, i32_s]
            obtain ⟨s3, e3⟩ : ∃ s, s = ((s'.set (504 + 12 * S.length + 2 * V.length) x2).set (505 + 12 * S.length + 2 * V.length) x7).set (501 + S.length) (sA ((s'.set (504 + 12 * S.length + 2 * V.length) x2).set (505 + 12 * S.length + 2 * V.length) x7, k.2) (501 + S.length) + 1) := ⟨_, rfl⟩
            have g11 : ∀ j, sA (s3, k.2) j = if j = 501 + S.length then Int32.ofNat (V.length + 1) else if j = 505 + 12 * S.length + 2 * V.length then x7 else if j = 504 + 12 * S.length + 2 * V.length then x2 else sA (s', k.2) j := fun j => by
              rw [e3, sA_set (k := (_, k.2)) l2 (by omega), ec, g10]
            have R11 := R10.s (s := s3) (by rw [e3, List.length_set]; exact l2)
            refine ⟨if false = true then 0 else if false = true then 0 else 10 - (V ++ [vxV cs (skp cs q)]).length, ?_, vxP cs (skp cs q), false, false, V ++ [vxV cs (skp cs q)], s3, rfl, rfl, rfl, rfl, by rw [e3] at R11; rw [e3]; exact R11, ?_, ?_, ?_, ?_, ((f8.trans fr314).trans fr314).trans fr314, fun q => absurd q (by decide), fun _ q => absurd q (by decide), fun _ _ => ?_⟩
            · rw [mm, List.length_append, List.length_singleton]
              show 10 - (V.length + 1) < _
              omega
            · intro i hi
              have e := g11 i
              rw [if_neg (by omega), if_neg (by omega), if_neg (by omega)] at e
              exact e.trans (hs i hi)
            · refine BS.keep hS fun i h1 h2 => ?_
              rw [g11, if_neg (by omega), if_neg (by omega), if_neg (by omega)]
            · refine ⟨by rw [g11, if_pos rfl, List.length_append, List.length_singleton], by rw [List.length_append, List.length_singleton]; omega, fun v hv => ?_⟩
              rw [List.length_append, List.length_singleton] at hv
              rw [getD_app, g11, g11, if_neg (by omega), if_neg (by omega)]
              by_cases cv : v < V.length
              · rw [if_pos cv, if_neg (by omega), if_neg (by omega), if_neg (by omega), if_neg (by omega)]
                exact BV.2.2 v cv
              · have : v = V.length := by omega
                subst this
                rw [if_neg cv, if_pos rfl, if_neg (by omega), if_pos rfl, if_pos rfl, ex, ey]; rfl
            · intro v hv
              rcases List.mem_append.mp hv with hv | hv
              · exact hV v hv
              · rw [List.mem_singleton.mp hv]
                have n1 := nmV_b b1
                have n2 := nmV_b b3
                exact ⟨n1.1, n1.2, n2.1, n2.2⟩
            · rw [← hgo, List.length_append, List.length_singleton]
              congr 1; omega
      refine ⟨fun c6 => t122 false ?_, fun c6 => t122 true ?_⟩
      · rw [decide_eq_false]; intro q; exact c6 (by rw [q]; rfl)
      · rw [decide_eq_true]; exact i32_inj (n := 6) (by omega) (by omega) c6
    · rw [pcGo_end c59] at hgo
      unfold pcEnd at hgo
      rw [if_pos c59] at hgo
      have smv := cvx_iff hV h6
      refine ⟨fun cl => ?_, fun cl => ?_⟩
      · have : V.length ≤ 2 := (i32_le (j := 2) (by omega) (by omega)).mp cl
        have nb : ¬ cvxB V = true := fun q => by have := (smv.mp q).1; omega
        rw [if_neg nb] at hgo
        exact fail hgo.symm
      · have n2 : ¬ V.length ≤ 2 := fun q => cl ((i32_le (i := V.length) (j := 2) (by omega) (by omega)).mpr q)
        refine cvIq H3.1 (m11_isPiece H3 BV hS (by omega)) fun x9 h10 q9 => ?_
        obtain ⟨q9, rfl⟩ := q9
        refine ⟨fun c9 => ?_, fun c9 => ?_⟩
        · have nb : ¬ cvxB V = true := fun q => ifC0 q9 c9 (smv.mp q).2
          rw [if_neg nb] at hgo
          exact fail hgo.symm
        · have cv : cvxB V = true := smv.mpr ⟨by omega, ifC1 q9 c9⟩
          rw [if_pos cv] at hgo
          have ea : accP cs 59 (skp cs q) = skp cs q + 1 := by unfold accP; rw [skp_skp, if_pos c59]
          rw [ea] at hgo
          have hlt := cur_lt (cs := cs) (p := skp cs q) (by rw [c59]; decide)
          have hn := T.2.1
          unfold PX11_readsPiece_75
          refine ⟨fun _ => ?_, fun q => absurd q (by decide)⟩
          unfold PX11_readsPiece_86
          have H4 := H3.set (zAt z3 (zT z3).1 (bI false))
          refine ⟨Or.inl rfl, (wr_iff H3.1).mpr ⟨Nat.le_of_ble_eq_true rfl, (rdI_iff H4.1).mpr ⟨_, rfl, fun q => absurd q (by decide), fun _ => ?_⟩⟩⟩
          unfold PX11_readsPiece_103
          refine (wr_iff H4.1).mpr ⟨Nat.le_of_ble_eq_true rfl, 0, by rw [mm]; omega, skp cs q + 1, false, true, V, s', rfl, rfl, rfl, rfl, ?_, hs, BS, BV, hV, f3.trans ((fr313.trans fr313).weak (by omega) (by omega)), fun q => absurd q (by decide), fun _ _ => ⟨hgo.symm, cv, by omega⟩, fun _ q => absurd q (by decide)⟩
          exact H4.rdz (k := (s', k.2)) (la := la) (skp cs q + 1) false (by omega) (a := (zT z3).1 + 1) (b := bI false) (by rw [ha3, i32_s]) rfl hl3
end RS
