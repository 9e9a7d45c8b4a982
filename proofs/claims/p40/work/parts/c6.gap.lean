/-! the gap: class and reference -/
theorem i64_dot {a b c d : Int64} (ha : -1000 ≤ a.toInt ∧ a.toInt ≤ 1000) (hb : -1000 ≤ b.toInt ∧ b.toInt ≤ 1000) (hc : -1000 ≤ c.toInt ∧ c.toInt ≤ 1000) (hd : -1000 ≤ d.toInt ∧ d.toInt ≤ 1000) : ((a * b + c * d).toInt = a.toInt * b.toInt + c.toInt * d.toInt ∧ (a * b - c * d).toInt = a.toInt * b.toInt - c.toInt * d.toInt) ∧ (-1000000 ≤ a.toInt * b.toInt ∧ a.toInt * b.toInt ≤ 1000000) ∧ -1000000 ≤ c.toInt * d.toInt ∧ c.toInt * d.toInt ≤ 1000000 := by
  have m1 := i64_mulE (x := a) (y := b) ⟨by omega, by omega⟩ ⟨by omega, by omega⟩
  have m2 := i64_mulE (x := c) (y := d) ⟨by omega, by omega⟩ ⟨by omega, by omega⟩
  have b1 := mul_bd ha.1 ha.2 hb.1 hb.2
  have b2 := mul_bd hc.1 hc.2 hd.1 hd.2
  refine ⟨⟨?_, ?_⟩, ⟨by omega, by omega⟩, by omega, by omega⟩
  · rw [i64_addE ⟨by omega, by omega⟩ ⟨by omega, by omega⟩, m1, m2]
  · rw [i64_subE ⟨by omega, by omega⟩ ⟨by omega, by omega⟩, m1, m2]
def BR (f : FQ) : Prop := (0 ≤ f.1.toInt ∧ f.1.toInt ≤ 1073741824) ∧ 0 ≤ f.2.toInt ∧ f.2.toInt ≤ 1073741824
def BF (f : FQ) : Prop := BR f ∧ (f.2.toInt = 0 → f.1.toInt = 1)
def MnP (P : FQ → Prop) (C : Int → Int → Prop) (f : FQ) : Prop := P f ∧ Mn C (zF f)
theorem br_mul {f g : FQ} (F : BR f) (G : BR g) : (g.1 * f.2).toInt = g.1.toInt * f.2.toInt ∧ (f.1 * g.2).toInt = f.1.toInt * g.2.toInt := by
  obtain ⟨⟨f1, f2⟩, f3, f4⟩ := F
  obtain ⟨⟨g1, g2⟩, g3, g4⟩ := G
  exact ⟨i64_mulE ⟨by omega, by omega⟩ ⟨by omega, by omega⟩, i64_mulE ⟨by omega, by omega⟩ ⟨by omega, by omega⟩⟩
theorem low_step {C : Int → Int → Prop} {f : FQ} (H : MnP BF C f) {n d : Int64} (hn : 0 ≤ n.toInt ∧ n.toInt ≤ 1073741824) (hd : 0 < d.toInt ∧ d.toInt ≤ 1073741824) : MnP BF (fun N D => C N D ∨ N = n.toInt ∧ D = d.toInt) (lowF f (n, d)) := by
  obtain ⟨⟨B, B1⟩, M⟩ := H
  obtain ⟨e1, e2⟩ := br_mul (f := f) (g := (n, d)) B ⟨hn, by dsimp only; omega, by dsimp only; omega⟩
  dsimp only at e1 e2
  unfold lowF
  have q : (n, d).1 * f.2 < f.1 * (n, d).2 ↔ n.toInt * f.2.toInt < f.1.toInt * d.toInt := by
    dsimp only
    rw [i64_lt, e1, e2]
  have key : (zF f).2 = 0 → n.toInt * f.2.toInt < f.1.toInt * d.toInt := fun z => by
    have z : f.2.toInt = 0 := z
    rw [z, B1 z]; omega
  by_cases c : n.toInt * f.2.toInt < f.1.toInt * d.toInt
  · rw [if_pos (q.mpr c)]
    refine ⟨⟨⟨hn, by dsimp only; omega, by dsimp only; omega⟩, fun z => by dsimp only at z; omega⟩, M.step hn.1 hd.1 (fun _ => rfl) fun h => absurd (Or.inr c) h⟩
  · rw [if_neg fun h => c (q.mp h)]
    exact ⟨⟨B, B1⟩, M.step hn.1 hd.1 (fun h => by rcases h with h | h; exact absurd (key h) c; exact absurd h c) fun _ => rfl⟩
theorem near_step {C : Int → Int → Prop} {f : FQ} (H : MnP BR C f) {n d : Int64} (hn : 0 ≤ n.toInt ∧ n.toInt ≤ 1073741824) (hd : 0 < d.toInt ∧ d.toInt ≤ 1073741824) : MnP BR (fun N D => C N D ∨ N = n.toInt ∧ D = d.toInt) (nearF n d f) := by
  obtain ⟨B, M⟩ := H
  obtain ⟨e1, e2⟩ := br_mul (f := f) (g := (n, d)) B ⟨hn, by dsimp only; omega, by dsimp only; omega⟩
  dsimp only at e1 e2
  unfold nearF
  have q : (f.2 = 0 ∨ n * f.2 < f.1 * d) ↔ ((zF f).2 = 0 ∨ n.toInt * f.2.toInt < f.1.toInt * d.toInt) := by
    rw [i64_lt, e1, e2, i64_eq, i64_z]; rfl
  by_cases c : f.2 = 0 ∨ n * f.2 < f.1 * d
  · rw [if_pos c]
    exact ⟨⟨hn, by dsimp only; omega, by dsimp only; omega⟩, M.step hn.1 hd.1 (fun _ => rfl) fun h => absurd (q.mp c) h⟩
  · rw [if_neg c]
    exact ⟨B, M.step hn.1 hd.1 (fun h => absurd (q.mpr h) c) fun _ => rfl⟩
theorem mn_fold {α : Type} {P : FQ → Prop} {step : FQ → α → FQ} {Cd : α → Int → Int → Prop} : ∀ (l : List α) (f : FQ) (C : Int → Int → Prop), (∀ a, a ∈ l → ∀ f C, MnP P C f → MnP P (fun N D => C N D ∨ Cd a N D) (step f a)) → MnP P C f → MnP P (fun N D => C N D ∨ ∃ a, a ∈ l ∧ Cd a N D) (l.foldl step f) := fun l => by
  induction l with
  | nil =>
    intro f C _ H
    exact ⟨H.1, H.2.congr fun N D => ⟨Or.inl, fun h => by rcases h with h | ⟨a, h, -⟩; exact h; simp at h⟩⟩
  | cons a l ih =>
    intro f C hs H
    have s := ih _ _ (fun b hb => hs b (List.mem_cons_of_mem _ hb)) (hs a (List.mem_cons_self ..) f C H)
    refine ⟨s.1, s.2.congr fun N D => ⟨fun h => ?_, fun h => ?_⟩⟩
    · rcases h with (h | h) | ⟨b, hb, h⟩
      · exact Or.inl h
      · exact Or.inr ⟨a, List.mem_cons_self .., h⟩
      · exact Or.inr ⟨b, List.mem_cons_of_mem _ hb, h⟩
    · rcases h with h | ⟨b, hb, h⟩
      · exact Or.inl (Or.inl h)
      · rcases List.mem_cons.mp hb with rfl | hb
        · exact Or.inl (Or.inr h)
        · exact Or.inr ⟨b, hb, h⟩
theorem MnP.congr {P : FQ → Prop} {C C' : Int → Int → Prop} {f : FQ} (H : MnP P C f) (h : ∀ N D, C N D ↔ C' N D) : MnP P C' f := ⟨H.1, H.2.congr h⟩
section GV
variable {V : List PT} {x y : Int32}
theorem vAt_pg {m : Int} (H : PG m V) (k : Nat) : -m ≤ (vAt V k).1.toInt ∧ (vAt V k).1.toInt ≤ m ∧ -m ≤ (vAt V k).2.toInt ∧ (vAt V k).2.toInt ≤ m := by
  unfold vAt
  generalize (if low V + k < V.length then low V + k else low V + k - V.length) = i
  by_cases d : i < V.length
  · exact H.2.1 _ (getD_mem (0, 0) d)
  · rw [List.getD_eq_getElem?_getD, List.getElem?_eq_none (by omega)]
    have := H.1
    have z : (0 : Int32).toInt = 0 := by decide
    show -m ≤ (0 : Int32).toInt ∧ (0 : Int32).toInt ≤ m ∧ -m ≤ (0 : Int32).toInt ∧ (0 : Int32).toInt ≤ m
    rw [z]; omega
theorem gap_step {C : Int → Int → Prop} {f : FQ} (H : PG 18 V) (hp : Bd (x, y)) (M : MnP BF C f) {e : Nat} (he : e < V.length) : MnP BF (fun N D => C N D ∨ Cc (zL V) (zP (x, y)) e N D) (gapStep V x y f e) := by
  have sd := side_sd H hp he
  have v0 := vAt_pg H e
  have v1 := vAt_pg H (e + 1)
  have z0 := vAt_zL H.ne (show e ≤ V.length by omega)
  have z1 := vAt_zL H.ne (show e + 1 ≤ V.length by omega)
  obtain ⟨p1, p2, p3, p4⟩ := hp
  dsimp only at p1 p2 p3 p4
  have tx := i32_subE (x := x) (y := (vAt V e).1) (by omega) (by omega) (by omega) (by omega)
  have ty := i32_subE (x := y) (y := (vAt V e).2) (by omega) (by omega) (by omega) (by omega)
  have ex := i32_subE (x := (vAt V (e + 1)).1) (y := (vAt V e).1) (by omega) (by omega) (by omega) (by omega)
  have ey := i32_subE (x := (vAt V (e + 1)).2) (y := (vAt V e).2) (by omega) (by omega) (by omega) (by omega)
  rw [← i64_w] at tx ty ex ey sd
  unfold gapStep
  generalize (x - (vAt V e).1).toInt64 = TX at *
  generalize (y - (vAt V e).2).toInt64 = TY at *
  generalize ((vAt V (e + 1)).1 - (vAt V e).1).toInt64 = EX at *
  generalize ((vAt V (e + 1)).2 - (vAt V e).2).toInt64 = EY at *
  generalize (sideP V e x y).toInt64 = S at *
  obtain ⟨⟨al, -⟩, alb1, alb2⟩ := i64_dot (a := TX) (b := EX) (c := TY) (d := EY) (by omega) (by omega) (by omega) (by omega)
  obtain ⟨⟨sq, -⟩, sqb1, sqb2⟩ := i64_dot (a := EX) (b := EX) (c := EY) (d := EY) (by omega) (by omega) (by omega) (by omega)
  obtain ⟨⟨tt, -⟩, ttb1, ttb2⟩ := i64_dot (a := TX) (b := TX) (c := TY) (d := TY) (by omega) (by omega) (by omega) (by omega)
  have eal : alE (zL V) (zP (x, y)) e = (TX * EX + TY * EY).toInt := by
    rw [al, tx, ty, ex, ey]
    unfold alE ed
    rw [← z0, ← z1]; rfl
  have esq : sqE (zL V) e = (EX * EX + EY * EY).toInt := by
    rw [sq, ex, ey]
    unfold sqE ed
    rw [← z0, ← z1]; rfl
  have ett : dt (zs (zP (x, y)) (zL V e)) (zs (zP (x, y)) (zL V e)) = (TX * TX + TY * TY).toInt := by
    rw [tt, tx, ty, ← z0]; rfl
  have sq0 := H.2.2.1.sq_pos e
  have tt0 := dt_sq_nonneg (zs (zP (x, y)) (zL V e))
  have one : (1 : Int64).toInt = 1 := by decide
  have M1 := low_step M (n := TX * TX + TY * TY) (d := 1) (by omega) (by rw [one]; omega)
  have sb : -16000 ≤ S.toInt ∧ S.toInt ≤ 16000 := by
    rw [sd]
    have m1 := mul_bd (a := (ed (zL V) e).1) (b := (zs (zP (x, y)) (zL V e)).2) (A := 36) (B := 218) (by unfold ed zs; rw [← z0, ← z1]; show _ ≤ (vAt V (e + 1)).1.toInt - (vAt V e).1.toInt; omega) (by unfold ed zs; rw [← z0, ← z1]; show (vAt V (e + 1)).1.toInt - (vAt V e).1.toInt ≤ _; omega) (by unfold zs; rw [← z0]; show _ ≤ y.toInt - (vAt V e).2.toInt; omega) (by unfold zs; rw [← z0]; show y.toInt - (vAt V e).2.toInt ≤ _; omega)
    have m2 := mul_bd (a := (ed (zL V) e).2) (b := (zs (zP (x, y)) (zL V e)).1) (A := 36) (B := 218) (by unfold ed zs; rw [← z0, ← z1]; show _ ≤ (vAt V (e + 1)).2.toInt - (vAt V e).2.toInt; omega) (by unfold ed zs; rw [← z0, ← z1]; show (vAt V (e + 1)).2.toInt - (vAt V e).2.toInt ≤ _; omega) (by unfold zs; rw [← z0]; show _ ≤ x.toInt - (vAt V e).1.toInt; omega) (by unfold zs; rw [← z0]; show x.toInt - (vAt V e).1.toInt ≤ _; omega)
    unfold sdE cr
    omega
  have ss := i64_mulE (x := S) (y := S) ⟨by omega, by omega⟩ ⟨by omega, by omega⟩
  have ssb := mul_bd (a := S.toInt) (b := S.toInt) (A := 16000) (B := 16000) (by omega) (by omega) (by omega) (by omega)
  have ss0 : 0 ≤ S.toInt * S.toInt := by
    rcases Int.le_total 0 S.toInt with h | h
    · exact Int.mul_nonneg h h
    · exact Int.mul_nonneg_of_nonpos_of_nonpos h h
  unfold gapQ Cc
  rw [eal, esq, ett]
  by_cases c : 0 < TX * EX + TY * EY ∧ TX * EX + TY * EY < EX * EX + EY * EY
  · rw [if_pos c]
    rw [i64_lt, i64_lt, i64_z] at c
    have M2 := low_step M1 (n := S * S) (d := EX * EX + EY * EY) (by rw [ss]; omega) (by omega)
    refine M2.congr fun N D => ?_
    rw [ss, sd, one]
    constructor
    · rintro ((h | h) | h)
      · exact Or.inl h
      · exact Or.inr (Or.inl h)
      · exact Or.inr (Or.inr ⟨c.1, c.2, h.1, h.2⟩)
    · rintro (h | h | h)
      · exact Or.inl (Or.inl h)
      · exact Or.inl (Or.inr h)
      · exact Or.inr h.2.2
  · rw [if_neg c]
    rw [i64_lt, i64_lt, i64_z] at c
    refine M1.congr fun N D => ?_
    rw [one]
    constructor
    · rintro (h | h)
      · exact Or.inl h
      · exact Or.inr (Or.inl h)
    · rintro (h | h | h)
      · exact Or.inl h
      · exact Or.inr h
      · exact absurd ⟨h.1, h.2.1⟩ c
theorem Cc_mod {n : Nat} {f : Nat → Z2} (H : Cvx n f) (p : Z2) (k : Nat) {N D : Int} : Cc f p (k % n) N D ↔ Cc f p k N D := by
  have a := H.mod k
  have b : f (k % n + 1) = f (k + 1) := by
    rw [← H.mod (k % n + 1), ← H.mod (k + 1), Nat.mod_add_mod]
  unfold Cc alE sqE sdE ed
  rw [a, b]
/-- the class's candidates at one pair -/
def CcP (V : List PT) (x y : Int32) (N D : Int) : Prop := (locP V x y = 0 ∧ ∃ k, Cc (zL V) (zP (x, y)) k N D) ∨ locP V x y ≠ 0 ∧ N = 0 ∧ D = 1
theorem gap_V {C : Int → Int → Prop} {f : FQ} (H : PG 18 V) (hp : Bd (x, y)) (M : MnP BF C f) : MnP BF (fun N D => C N D ∨ CcP V x y N D) (gapV V x y f) := by
  unfold gapV CcP
  by_cases c : locP V x y = 0
  · rw [if_pos c]
    have s := mn_fold (P := BF) (step := gapStep V x y) (Cd := Cc (zL V) (zP (x, y))) (List.range V.length) f C (fun e he f C M => gap_step H hp M (List.mem_range.mp he)) M
    refine s.congr fun N D => ⟨fun h => ?_, fun h => ?_⟩
    · rcases h with h | ⟨e, -, h⟩
      · exact Or.inl h
      · exact Or.inr (Or.inl ⟨c, e, h⟩)
    · rcases h with h | ⟨-, k, h⟩ | h
      · exact Or.inl h
      · exact Or.inr ⟨k % V.length, List.mem_range.mpr (Nat.mod_lt _ (by have := H.2.2.1.1; omega)), (Cc_mod H.2.2.1 _ k).mpr h⟩
      · exact absurd c h.1
  · rw [if_neg c]
    have s := low_step M (n := 0) (d := 1) (by decide) (by decide)
    refine s.congr fun N D => ⟨fun h => ?_, fun h => ?_⟩
    · rcases h with h | h
      · exact Or.inl h
      · exact Or.inr (Or.inr ⟨c, h⟩)
    · rcases h with h | h | h
      · exact Or.inl h
      · exact absurd h.1 c
      · exact Or.inr h.2
end GV
