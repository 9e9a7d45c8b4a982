/-! rays: class and reference at one pair of pieces -/
def zQ (q : Q4) : Q4I := (q.1.toInt, q.2.1.toInt, q.2.2.1.toInt, q.2.2.2.toInt)
def Bk (q : Q4) : Prop := ((-200000 ≤ q.1.toInt ∧ q.1.toInt ≤ 200000) ∧ -200000 ≤ q.2.1.toInt ∧ q.2.1.toInt ≤ 200000) ∧ (-200000 ≤ q.2.2.1.toInt ∧ q.2.2.1.toInt ≤ 200000) ∧ -200000 ≤ q.2.2.2.toInt ∧ q.2.2.2.toInt ≤ 200000
theorem ent_up {q : Q4} {s g : Int64} (H : Bk q) (hs : -200000 ≤ s.toInt ∧ s.toInt ≤ 200000) (hg : -200000 ≤ g.toInt ∧ g.toInt ≤ 200000) : Bk (entUp q s g) ∧ zQ (entUp q s g) = eI (zQ q) (s.toInt, g.toInt) := by
  obtain ⟨lo, lb, hi, hb⟩ := q
  obtain ⟨⟨h1, h2⟩, h3, h4⟩ := H
  dsimp only at h1 h2 h3 h4
  have ns := i64_negE (x := s) ⟨by omega, by omega⟩
  have ng := i64_negE (x := g) ⟨by omega, by omega⟩
  have m1 := i64_mulE (x := lo) (y := g) ⟨by omega, by omega⟩ ⟨by omega, by omega⟩
  have m2 := i64_mulE (x := -s) (y := lb) ⟨by omega, by omega⟩ ⟨by omega, by omega⟩
  have m3 := i64_mulE (x := s) (y := hb) ⟨by omega, by omega⟩ ⟨by omega, by omega⟩
  have m4 := i64_mulE (x := hi) (y := -g) ⟨by omega, by omega⟩ ⟨by omega, by omega⟩
  have c1 : (0 < g ∧ lo * g < -s * lb) ↔ loB (zQ (lo, lb, hi, hb)) (s.toInt, g.toInt) := by
    rw [i64_lt, i64_lt, m1, m2, ns, i64_z]; exact Iff.rfl
  have c2 : (g < 0 ∧ s * hb < hi * -g) ↔ hiB (zQ (lo, lb, hi, hb)) (s.toInt, g.toInt) := by
    rw [i64_lt, i64_lt, m3, m4, ng, i64_z]; exact Iff.rfl
  unfold entUp eI
  dsimp only
  by_cases d1 : 0 < g ∧ lo * g < -s * lb
  · rw [if_pos d1, if_pos d1, if_pos (c1.mp d1), if_pos (c1.mp d1)]
    by_cases d2 : g < 0 ∧ s * hb < hi * -g
    · rw [if_pos d2, if_pos d2, if_pos (c2.mp d2), if_pos (c2.mp d2)]
      unfold Bk zQ
      dsimp only
      rw [ns, ng]
      exact ⟨⟨⟨by omega, by omega⟩, by omega, by omega⟩, rfl⟩
    · rw [if_neg d2, if_neg d2, if_neg fun h => d2 (c2.mpr h), if_neg fun h => d2 (c2.mpr h)]
      unfold Bk zQ
      dsimp only
      rw [ns]
      exact ⟨⟨⟨by omega, by omega⟩, by omega, by omega⟩, rfl⟩
  · rw [if_neg d1, if_neg d1, if_neg fun h => d1 (c1.mpr h), if_neg fun h => d1 (c1.mpr h)]
    by_cases d2 : g < 0 ∧ s * hb < hi * -g
    · rw [if_pos d2, if_pos d2, if_pos (c2.mp d2), if_pos (c2.mp d2)]
      unfold Bk zQ
      dsimp only
      rw [ng]
      exact ⟨⟨⟨by omega, by omega⟩, by omega, by omega⟩, rfl⟩
    · rw [if_neg d2, if_neg d2, if_neg fun h => d2 (c2.mpr h), if_neg fun h => d2 (c2.mpr h)]
      exact ⟨⟨⟨by omega, by omega⟩, by omega, by omega⟩, rfl⟩
/-- a place, and a step -/
def Bq (v : PT) : Prop := -150 ≤ v.1.toInt ∧ v.1.toInt ≤ 150 ∧ -150 ≤ v.2.toInt ∧ v.2.toInt ≤ 150
def Dv (v : PT) : Prop := (-1 ≤ v.1.toInt ∧ v.1.toInt ≤ 1 ∧ -1 ≤ v.2.toInt ∧ v.2.toInt ≤ 1) ∧ ¬ (v.1.toInt = 0 ∧ v.2.toInt = 0)
section RA
variable {V : List PT} {x y dx dy : Int32}
theorem bq_bd (h : Bq (x, y)) : Bd (x, y) := by
  obtain ⟨a, b, c, d⟩ := h
  exact ⟨by omega, by omega, by omega, by omega⟩
theorem bq_add (h : Bq (x, y)) (hd : Dv (dx, dy)) : Bd (x + dx, y + dy) ∧ zP (x + dx, y + dy) = za (zP (x, y)) (zP (dx, dy)) := by
  obtain ⟨a, b, c, d⟩ := h
  obtain ⟨⟨e, f, g, i⟩, -⟩ := hd
  dsimp only at a b c d e f g i
  have e1 := i32_addE (x := x) (y := dx) (by omega) (by omega) (by omega) (by omega)
  have e2 := i32_addE (x := y) (y := dy) (by omega) (by omega) (by omega) (by omega)
  refine ⟨⟨by dsimp only; omega, by dsimp only; omega, by dsimp only; omega, by dsimp only; omega⟩, ?_⟩
  unfold zP za
  dsimp only
  rw [e1, e2]
theorem sd_bd (H : PG 18 V) (hp : Bd (x, y)) {e : Nat} (he : e < V.length) : -16000 ≤ sdE (zL V) (zP (x, y)) e ∧ sdE (zL V) (zP (x, y)) e ≤ 16000 := by
  have v0 := vAt_pg H e
  have v1 := vAt_pg H (e + 1)
  have z0 := vAt_zL H.ne (show e ≤ V.length by omega)
  have z1 := vAt_zL H.ne (show e + 1 ≤ V.length by omega)
  obtain ⟨p1, p2, p3, p4⟩ := hp
  dsimp only at p1 p2 p3 p4
  have m1 := mul_bd (a := (ed (zL V) e).1) (b := (zs (zP (x, y)) (zL V e)).2) (A := 36) (B := 218) (by unfold ed zs; rw [← z0, ← z1]; show _ ≤ (vAt V (e + 1)).1.toInt - (vAt V e).1.toInt; omega) (by unfold ed zs; rw [← z0, ← z1]; show (vAt V (e + 1)).1.toInt - (vAt V e).1.toInt ≤ _; omega) (by unfold zs; rw [← z0]; show _ ≤ y.toInt - (vAt V e).2.toInt; omega) (by unfold zs; rw [← z0]; show y.toInt - (vAt V e).2.toInt ≤ _; omega)
  have m2 := mul_bd (a := (ed (zL V) e).2) (b := (zs (zP (x, y)) (zL V e)).1) (A := 36) (B := 218) (by unfold ed zs; rw [← z0, ← z1]; show _ ≤ (vAt V (e + 1)).2.toInt - (vAt V e).2.toInt; omega) (by unfold ed zs; rw [← z0, ← z1]; show (vAt V (e + 1)).2.toInt - (vAt V e).2.toInt ≤ _; omega) (by unfold zs; rw [← z0]; show _ ≤ x.toInt - (vAt V e).1.toInt; omega) (by unfold zs; rw [← z0]; show x.toInt - (vAt V e).1.toInt ≤ _; omega)
  unfold sdE cr
  omega
/-- an edge as a condition on the time -/
def uE (V : List PT) (p d : Z2) (e : Nat) : Int × Int := (sdE (zL V) p e, cr (ed (zL V) e) d)
theorem ent_one (H : PG 18 V) (hp : Bq (x, y)) (hd : Dv (dx, dy)) {e : Nat} (he : e < V.length) : ((sideP V e x y).toInt64.toInt = (uE V (zP (x, y)) (zP (dx, dy)) e).1 ∧ ((sideP V e (x + dx) (y + dy)).toInt64 - (sideP V e x y).toInt64).toInt = (uE V (zP (x, y)) (zP (dx, dy)) e).2) ∧ (-200000 ≤ (sideP V e x y).toInt64.toInt ∧ (sideP V e x y).toInt64.toInt ≤ 200000) ∧ -200000 ≤ ((sideP V e (x + dx) (y + dy)).toInt64 - (sideP V e x y).toInt64).toInt ∧ ((sideP V e (x + dx) (y + dy)).toInt64 - (sideP V e x y).toInt64).toInt ≤ 200000 := by
  have a := side_sd H (bq_bd hp) he
  have b := side_sd H (bq_add hp hd).1 he
  have s := sd_bd H (bq_bd hp) he
  have s2 := sd_bd H (bq_add hp hd).1 he
  rw [← i64_w] at a b
  have e1 := i64_subE (x := (sideP V e (x + dx) (y + dy)).toInt64) (y := (sideP V e x y).toInt64) ⟨by omega, by omega⟩ ⟨by omega, by omega⟩
  have e2 : sdE (zL V) (zP (x + dx, y + dy)) e = sdE (zL V) (zP (x, y)) e + cr (ed (zL V) e) (zP (dx, dy)) := by
    rw [(bq_add hp hd).2]; unfold sdE cr zs za; grind
  refine ⟨⟨a, ?_⟩, ⟨by omega, by omega⟩, by omega, by omega⟩
  show _ = cr (ed (zL V) e) (zP (dx, dy))
  omega
theorem ent_go (H : PG 18 V) (hp : Bq (x, y)) (hd : Dv (dx, dy)) : ∀ t e q, e + t = V.length → Bk q → (entGo V x y dx dy t e q = none ∧ ∃ j, j < V.length ∧ (uE V (zP (x, y)) (zP (dx, dy)) j).2 = 0 ∧ (uE V (zP (x, y)) (zP (dx, dy)) j).1 ≤ 0) ∨ ∃ q', entGo V x y dx dy t e q = some q' ∧ Bk q' ∧ zQ q' = ((List.range' e t).map (uE V (zP (x, y)) (zP (dx, dy)))).foldl eI (zQ q) ∧ ∀ j, e ≤ j → j < e + t → (uE V (zP (x, y)) (zP (dx, dy)) j).2 = 0 → 0 < (uE V (zP (x, y)) (zP (dx, dy)) j).1 := fun t => by
  induction t with
  | zero =>
    intro e q he hq
    exact Or.inr ⟨q, rfl, hq, rfl, fun j h1 h2 => by omega⟩
  | succ t ih =>
    intro e q he hq
    rw [entGo_succ]
    obtain ⟨⟨o1, o2⟩, o3, o4⟩ := ent_one H hp hd (e := e) (by omega)
    generalize (sideP V e x y).toInt64 = s at *
    generalize (sideP V e (x + dx) (y + dy)).toInt64 - s = g at *
    by_cases c : g = 0 ∧ ¬ 0 < s
    · rw [if_pos c]
      refine Or.inl ⟨rfl, e, by omega, ?_, ?_⟩
      · rw [← o2, c.1]; rfl
      · have := c.2
        rw [i64_lt, i64_z] at this
        omega
    · rw [if_neg c]
      obtain ⟨u1, u2⟩ := ent_up hq o3 o4
      rcases ih (e + 1) _ (by omega) u1 with ⟨h1, h2⟩ | ⟨q', h1, h2, h3, h4⟩
      · exact Or.inl ⟨h1, h2⟩
      · refine Or.inr ⟨q', h1, h2, ?_, fun j j1 j2 z => ?_⟩
        · rw [h3, u2, List.range'_succ, List.map_cons, List.foldl_cons, o1, o2]
        · by_cases d : j = e
          · subst d
            rw [← o2] at z
            rw [← o1]
            by_cases w : 0 < s.toInt
            · exact w
            · exact absurd ⟨i64_eq.mpr z, fun q => w (by rw [i64_lt, i64_z] at q; exact q)⟩ c
          · exact h4 j (by omega) (by omega) z
/-- the class's times -/
def FU (V : List PT) (p d : Z2) (a b : Int) : Prop := ∀ k, 0 < sdE (zL V) p k * b + a * cr (ed (zL V) k) d
theorem FU_len (H : PG 18 V) {p d : Z2} {a b : Int} : FU V p d a b ↔ ∀ k, k < V.length → 0 < (uE V p d k).1 * b + a * (uE V p d k).2 := by
  have hl : 0 < V.length := List.length_pos_iff.mpr H.ne
  refine ⟨fun h k _ => h k, fun h k => ?_⟩
  have := h (k % V.length) (Nat.mod_lt _ hl)
  unfold uE at this
  dsimp only at this
  have e : ed (zL V) (k % V.length) = ed (zL V) k := by
    have C := H.2.2.1
    unfold ed
    rw [C.mod, ← C.mod (k % V.length + 1), ← C.mod (k + 1), Nat.mod_add_mod]
  rw [sd_per H.2.2.1, e] at this
  exact this
theorem ent_spec (H : PG 18 V) (hp : Bq (x, y)) (hd : Dv (dx, dy)) : (entP V x y dx dy = none ∧ ∀ a b, 0 < b → ¬ FU V (zP (x, y)) (zP (dx, dy)) a b) ∨ ∃ q : Q4, Iv (FU V (zP (x, y)) (zP (dx, dy))) (zQ q) ∧ Bk q ∧ entP V x y dx dy = (if 0 < (zQ q).2.2.1 ∧ (zQ q).1 * (zQ q).2.2.2 < (zQ q).2.2.1 * (zQ q).2.1 then some (if 0 < q.1 then q.1 else 0, q.2.1) else none) := by
  rcases ent_go H hp hd V.length 0 (-1, 0, 1, 0) (by omega) ⟨⟨by decide, by decide⟩, by decide, by decide⟩ with ⟨h1, j, hj, h2, h3⟩ | ⟨q, h1, h2, h3, h4⟩
  · refine Or.inl ⟨by unfold entP; rw [h1], fun a b hb F => ?_⟩
    have f := F j
    have f : 0 < (uE V (zP (x, y)) (zP (dx, dy)) j).1 * b + a * (uE V (zP (x, y)) (zP (dx, dy)) j).2 := f
    rw [h2, Int.mul_zero, Int.add_zero] at f
    have := Int.mul_nonpos_of_nonpos_of_nonneg h3 (Int.le_of_lt hb)
    omega
  · refine Or.inr ⟨q, ?_, h2, ?_⟩
    · have z : zQ (-1, 0, 1, 0) = (-1, 0, 1, 0) := by decide
      rw [h3, z]
      have I := Iv.fold ((List.range' 0 V.length).map (uE V (zP (x, y)) (zP (dx, dy)))) _ _ iv_start (fun c hc z => by
        obtain ⟨j, hj, rfl⟩ := List.mem_map.mp hc
        have := List.mem_range'_1.mp hj
        exact h4 j (by omega) (by omega) z)
      refine ⟨I.1, I.2.1, I.2.2.1, fun a b hb => Iff.trans ?_ (I.2.2.2 a b hb)⟩
      rw [FU_len H]
      constructor
      · intro h
        refine ⟨trivial, fun c hc => ?_⟩
        obtain ⟨j, hj, rfl⟩ := List.mem_map.mp hc
        have := List.mem_range'_1.mp hj
        exact h j (by omega)
      · rintro ⟨-, h⟩ k hk
        exact h _ (List.mem_map.mpr ⟨k, List.mem_range'_1.mpr ⟨by omega, by omega⟩, rfl⟩)
    · unfold entP
      rw [h1]
      obtain ⟨lo, lb, hi, hb⟩ := q
      obtain ⟨⟨b1, b2⟩, b3, b4⟩ := h2
      dsimp only at b1 b2 b3 b4
      have m1 := i64_mulE (x := lo) (y := hb) ⟨by omega, by omega⟩ ⟨by omega, by omega⟩
      have m2 := i64_mulE (x := hi) (y := lb) ⟨by omega, by omega⟩ ⟨by omega, by omega⟩
      have e : (0 < hi ∧ lo * hb < hi * lb) ↔ (0 < (zQ (lo, lb, hi, hb)).2.2.1 ∧ (zQ (lo, lb, hi, hb)).1 * (zQ (lo, lb, hi, hb)).2.2.2 < (zQ (lo, lb, hi, hb)).2.2.1 * (zQ (lo, lb, hi, hb)).2.1) := by
        rw [i64_lt, i64_lt, m1, m2, i64_z]; exact Iff.rfl
      dsimp only
      by_cases c : 0 < hi ∧ lo * hb < hi * lb
      · rw [if_pos c]; exact (if_pos (e.mp c)).symm
      · rw [if_neg c]; exact (if_neg fun h => c (e.mpr h)).symm
end RA
