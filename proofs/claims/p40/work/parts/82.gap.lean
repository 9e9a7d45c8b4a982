/-! gaps and sliding of the reference -/
def nearF (t b : Int64) (f : FQ) : FQ := if f.2 = 0 ∨ t * f.2 < f.1 * b then (t, b) else f
def nsQ (f : FQ) (dx dy px py : Int64) : FQ := if 0 < px * dx + py * dy ∧ px * dx + py * dy < dx * dx + dy * dy then nearF ((px * dy - py * dx) * (px * dy - py * dx)) (dx * dx + dy * dy) f else nearF (px * px + py * py) 1 f
def nsStep (A B : List PT) (x y : Int32) (f : FQ) (ve : Nat × Nat) : FQ := nsQ f ((vR B (ve.2 + 1)).1 - (vR B ve.2).1).toInt64 ((vR B (ve.2 + 1)).2 - (vR B ve.2).2).toInt64 ((vR A ve.1).1 - (vR B ve.2).1 - x).toInt64 ((vR A ve.1).2 - (vR B ve.2).2 - y).toInt64
def nsP (A B : List PT) (x y : Int32) (f : FQ) : FQ := (pre B.length A.length 0).foldl (nsStep A B x y) f
def lgStep (SA SB : SH) (x y : Int32) (f : FQ) (ij : Nat × Nat) : FQ := nsP (SB.getD ij.2 []) (SA.getD ij.1 []) (-x) (-y) (nsP (SA.getD ij.1 []) (SB.getD ij.2 []) x y f)
def lgP (SA SB : SH) (x y : Int32) : FQ := if anyP SA SB x y 0 1 = true then (0, 1) else (pre SB.length SA.length 0).foldl (lgStep SA SB x y) (0, 0)
theorem i64_n {n : Nat} (h : n < 4611686018427387904) : (Int64.ofNat n).toInt = n := by
  rw [Int64.toInt_ofNat']; simp only [Int.bmod, Int64.size]; omega
theorem i64_rem {v n : Nat} (hv : v < 4611686018427387904) (hn : n < 4611686018427387904) : Int64.ofNat v - Int64.ofNat v / Int64.ofNat n * Int64.ofNat n = Int64.ofNat (v % n) := by
  have e : Int64.ofNat v / Int64.ofNat n = Int64.ofNat (v / n) := by
    have hd : v / n ≤ v := Nat.div_le_self v n
    rw [← Int64.toInt_inj, Int64.toInt_div, i64_n hv, i64_n hn, i64_n (by omega), ← Int.ofNat_tdiv]
    have := i64_n (n := v / n) (by omega)
    rw [Int64.toInt_ofNat'] at this; exact this
  rw [e, ← Int64.ofNat_mul, ← Int64.ofNat_sub _ _ (Nat.div_mul_le_self v n)]
  congr 1
  have := Nat.div_add_mod v n
  rw [Nat.mul_comm] at this; omega
theorem i64_inj {m n : Nat} (hm : m < 4611686018427387904) (hn : n < 4611686018427387904) (q : Int64.ofNat m = Int64.ofNat n) : m = n := by
  have := congrArg Int64.toInt q
  rw [i64_n hm, i64_n hn] at this; omega
section GA
variable {E : EV} {h : AH} {z : Sc} {k : MK} {a b : Nat} {SA SB : SH} {i j : Nat}
def partN (u v : Nat) (p : Int32) : Int32 := (Int64.ofNat (if p = 0 then u else v) / Int64.ofNat (Nat.gcd u v)).toInt32
end GA
