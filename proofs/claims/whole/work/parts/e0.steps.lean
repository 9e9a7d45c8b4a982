/-! what holds between two calls, and every call's step -/
section IV
variable {h h1 h' : AH} {cs cs' : List Int32} {σ σ' : SV} {vs vs' : List SV} {M M' : Nat → SH} {ρ ρ' : RV} {ps ps' : List RV} {E : EV}
theorem Plb.offR (H : Plb h cs σ vs M) (f : Fr 313 323 h h') : Plb h' cs σ vs M := by
  obtain ⟨h0, ⟨p, num, S, W, V, h1⟩, ⟨L, h2⟩, h3, h4, h5, ⟨σb, h6⟩, h7, ⟨V2, h8⟩, ⟨S2, W2, h9⟩, ⟨g, h10⟩, ⟨bl, h11, h12⟩, h13⟩ := H
  exact ⟨(f.2 _ (by omega)).trans h0, ⟨p, num, S, W, V, h1.fr f (by omega)⟩, ⟨L, h2.fr f (by omega)⟩, h3.fr f (by omega), h4.fr f (by omega), h5.fr f (by omega), ⟨σb, h6.fr f (by omega)⟩, h7.fr f (by omega), ⟨V2, h8.fr f (by omega)⟩, ⟨S2, W2, h9.fr f (by omega)⟩, ⟨g, h10.fr f (by omega)⟩, ⟨bl, (f.2 _ (by omega)).trans h11, h12⟩, h13.fr f (by omega) (by omega)⟩
theorem Mrf.same (H : Mrf h cs ρ ps) (s : ∀ q, 313 ≤ q → q < 323 → h'[q]? = h[q]?) : Mrf h' cs ρ ps := by
  obtain ⟨z, k, a, b, c⟩ := H
  exact ⟨z, k, a.same s, b, c⟩
theorem Mrf.obj (H : Mrf h cs ρ ps) : ∃ fs, h[313]? = some (.inr (11, fs)) := by
  obtain ⟨z, k, a, b, c⟩ := H
  exact ⟨_, a.1⟩
def InvW (h : AH) : Prop := 323 ≤ h.length ∧ ∃ cs σ vs M ρ ps, (Plb h cs σ vs M ∧ Mrf h cs ρ ps) ∧ Ful M σ vs ρ ps ∧ ∀ c, c ∈ cs → c ≠ (-1 : Int32)
theorem step_g {S10 S11 : List AV → AH → (Option AV → AH → Prop) → Prop} {As : List AV} {v : Int32} (L : 323 ≤ h.length) (H : Plb h cs σ vs M) (R : Mrf h cs ρ ps) (A : S10 (aP (some 0) :: As) h (kI fun r h' => r = v ∧ Plb h' cs' σ' vs' M' ∧ FrG h h')) (B : ∀ h1, Mrf h1 cs ρ ps → S11 (aP (some 313) :: As) h1 (Rq cs' ρ' ps' h1 v)) (F : Ful M' σ' vs' ρ' ps') (C : ∀ c, c ∈ cs' → c ≠ (-1 : Int32)) : CV S10 (some 0) 10 As h (kI fun r h => CV S11 (some 313) 11 As h (kI fun r2 h => r = r2 ∧ InvW h)) := by
  refine cvIq H.1 A fun r h1 q1 => ?_
  obtain ⟨e1, H1, f1⟩ := q1
  have R1 := R.same (h' := h1) fun q a b => f1.2 q a (by omega)
  obtain ⟨fs, mo⟩ := R1.obj
  refine cvIq mo (B h1 R1) fun r2 h2 q2 => ?_
  obtain ⟨e2, R2, f2⟩ := q2
  exact ⟨by rw [e1, e2], by rw [f2.1]; exact Nat.le_trans L f1.1, cs', σ', vs', M', ρ', ps', ⟨H1.offR f2, R2⟩, F, C⟩
theorem step_q {S10 S11 : List AV → AH → (Option AV → AH → Prop) → Prop} {As : List AV} {v v2 : Int32} (L : 323 ≤ h.length) (H : Plb h cs σ vs M) (R : Mrf h cs ρ ps) (F : Ful M σ vs ρ ps) (C : ∀ c, c ∈ cs → c ≠ (-1 : Int32)) (A : S10 (aP (some 0) :: As) h (Qy cs σ vs M h v)) (B : ∀ h1, Mrf h1 cs ρ ps → S11 (aP (some 313) :: As) h1 (Rq cs ρ ps h1 v2)) (e : v = v2) : CV S10 (some 0) 10 As h (kI fun r h => CV S11 (some 313) 11 As h (kI fun r2 h => r = r2 ∧ InvW h)) := by
  refine cvIq H.1 A fun r h1 q1 => ?_
  obtain ⟨e1, H1, f1⟩ := q1
  have R1 := R.same (h' := h1) fun q a b => f1.2 q (Or.inr a)
  obtain ⟨fs, mo⟩ := R1.obj
  refine cvIq mo (B h1 R1) fun r2 h2 q2 => ?_
  obtain ⟨e2, R2, f2⟩ := q2
  exact ⟨by rw [e1, e2, e], by rw [f2.1, f1.1]; exact L, cs, σ, vs, M, ρ, ps, ⟨H1.offR f2, R2⟩, F, C⟩
theorem step_c {S10 S11 : List AV → AH → (Option AV → AH → Prop) → Prop} {As : List AV} {v v2 : Int32} (L : 323 ≤ h.length) (H : Plb h cs σ vs M) (R : Mrf h cs ρ ps) (C : ∀ c, c ∈ cs' → c ≠ (-1 : Int32)) (A : S10 (aP (some 0) :: As) h (Cy cs' σ' vs' M h v)) (B : ∀ h1, Mrf h1 cs ρ ps → S11 (aP (some 313) :: As) h1 (Rq cs' ρ' ps' h1 v2)) (e : v = v2) (F : Ful M σ' vs' ρ' ps') : CV S10 (some 0) 10 As h (kI fun r h => CV S11 (some 313) 11 As h (kI fun r2 h => r = r2 ∧ InvW h)) := by
  refine cvIq H.1 A fun r h1 q1 => ?_
  obtain ⟨e1, H1, f1⟩ := q1
  have R1 := R.same (h' := h1) fun q a b => f1.2 q (Or.inr a)
  obtain ⟨fs, mo⟩ := R1.obj
  refine cvIq mo (B h1 R1) fun r2 h2 q2 => ?_
  obtain ⟨e2, R2, f2⟩ := q2
  exact ⟨by rw [e1, e2, e], by rw [f2.1, f1.1]; exact L, cs', σ', vs', M, ρ', ps', ⟨H1.offR f2, R2⟩, F, C⟩
theorem step_5 {S10 S11 : List AV → AH → (Option AV → AH → Prop) → Prop} {As : List AV} {t : C5} {r : Int32 × List Int32 × RV × List RV} (L : 323 ≤ h.length) (H : Plb h cs σ vs M) (R : Mrf h cs ρ ps) (C : ∀ c, c ∈ t.2.1 → c ≠ (-1 : Int32)) (A : S10 (aP (some 0) :: As) h (Cg t h)) (B : ∀ h1, Mrf h1 cs ρ ps → S11 (aP (some 313) :: As) h1 (Rq r.2.1 r.2.2.1 r.2.2.2 h1 r.1)) (F : Ful5 t r) : CV S10 (some 0) 10 As h (kI fun r h => CV S11 (some 313) 11 As h (kI fun r2 h => r = r2 ∧ InvW h)) := by
  obtain ⟨f1, f2, f3⟩ := F
  refine step_g L H R A (fun h1 R1 => ?_) f3 C
  have b := B h1 R1
  rw [← f1, ← f2] at b
  exact b
theorem liv_lt (H : Plb h cs σ vs M) : ∀ a, Liv σ vs a → a ≠ h.length := fun a ha q => by
  obtain ⟨fs, e⟩ := (H.shm.1 a ha).1.ad
  have := (List.getElem?_eq_some_iff.mp e).1
  omega
theorem sm_both (H : StR M σ ρ) {S S' : SH} (h : SR S S') (ne : S ≠ []) : SmB (bxP S σ.2.2.1 σ.2.2.2.1) ∧ SmB (bxR S' ρ.2.2.1 ρ.2.2.2.1) := by
  obtain ⟨e, wq⟩ := H.2.2.1
  have e1 : σ.2.2.1 = ρ.2.2.1 := congrArg Prod.fst e
  have e2 : σ.2.2.2.1 = ρ.2.2.2.1 := congrArg (fun q => q.2.1) e
  have b := (box_sm (c := ρ.2.2.2.2) (w := ρ.2.2.1) (hh := ρ.2.2.2.1) h ne wq).1
  rw [bx_eq h ne, e1, e2]
  exact ⟨b, b⟩
theorem tnS_any (t : Int32) (S : SH) : ∃ j, j < 4 ∧ tnS t S = qtN j S := by
  have k3 : ∀ t : Int32, t.toInt ≠ 0 → t.toInt ≠ 1 → t.toInt ≠ 2 → tnS t S = tnS 3 S := fun t h0 h1 h2 => by
    unfold tnS
    congr 1
    funext P
    congr 1
    funext v
    have z : (3 : Int32).toInt = 3 := by decide
    unfold trP trX
    rw [z, if_neg h0, if_neg h1, if_neg h2, if_neg h0, if_neg h1, if_neg h2]
    simp
  by_cases c0 : t.toInt = 0
  · have : t = Int32.ofNat 0 := Int32.toInt_inj.mp c0
    exact ⟨0, by omega, by rw [this]; exact tnS_qt (by omega) S⟩
  · by_cases c1 : t.toInt = 1
    · have : t = Int32.ofNat 1 := Int32.toInt_inj.mp c1
      exact ⟨1, by omega, by rw [this]; exact tnS_qt (by omega) S⟩
    · by_cases c2 : t.toInt = 2
      · have : t = Int32.ofNat 2 := Int32.toInt_inj.mp c2
        exact ⟨2, by omega, by rw [this]; exact tnS_qt (by omega) S⟩
      · exact ⟨3, by omega, by rw [k3 t c0 c1 c2]; exact tnS_qt (t := 3) (by omega) S⟩
theorem app_ok {c : Int32} (C : ∀ c, c ∈ cs → c ≠ (-1 : Int32)) : ∀ x, x ∈ (cAppend cs c).2 → x ≠ (-1 : Int32) := by
  unfold cAppend
  by_cases k : ¬ c < 0 ∧ c ≤ 255
  · rw [ifC_pos k]
    split
    · intro x hx
      rcases List.mem_append.mp hx with q | q
      · exact C x q
      · rw [List.mem_singleton] at q
        subst q
        intro e
        rw [e] at k
        exact k.1 (by decide)
    · exact C
  · rw [ifC_neg k]; exact C
theorem steps_all (h : AH) (I : InvW h) : Steps E h InvW := by
  obtain ⟨L, cs, σ, vs, M, ρ, ps, ⟨H, R⟩, F, C⟩ := I
  have hb := liv_lt H
  have m1 : M 1 = [] := H.shm.2.1
  refine ⟨fun a1 => ?_, ?_, fun a1 => ?_, fun a1 => ?_, fun a1 a2 a3 => ?_, fun a1 => ?_, fun a1 a2 => ?_, fun a1 => ?_, fun a1 a2 a3 => ?_, fun a1 a2 => ?_, fun a1 a2 a3 a4 a5 => ?_, fun a1 a2 a3 a4 a5 a6 => ?_, fun a1 a2 a3 a4 => ?_, fun a1 a2 a3 a4 => ?_, fun a1 a2 a3 a4 a5 => ?_, fun a1 a2 a3 a4 a5 a6 => ?_, fun a1 => ?_, fun a1 a2 => ?_, fun a1 a2 a3 => ?_, fun a1 => ?_, fun a1 => ?_, ?_, fun a1 a2 => ?_, ?_, fun a1 => ?_, ?_, fun a1 a2 => ?_, fun a1 => ?_, fun a1 a2 a3 => ?_, ?_, fun a1 a2 => ?_, fun a1 a2 => ?_, fun a1 a2 => ?_, ?_, fun a1 => ?_, ?_, ?_⟩
  · unfold PC_0
    refine step_c (ρ' := ρ) (ps' := ps) L H R (app_ok C) (c10_append H a1) (fun h1 R1 => ?_) rfl F
    obtain ⟨z, k, mo, ms, tx⟩ := R1
    refine spec_mono (m11_appendCharacter mo tx a1) fun v h2 q => ?_
    obtain ⟨x, e, e1, t, a, b, f⟩ := q
    exact ⟨x, e, e1, ⟨z, _, a, ms, b⟩, f⟩
  · unfold PC_1
    refine step_c (ρ' := ρ) (ps' := ps) L H R (fun c hc => absurd hc List.not_mem_nil) (c10_clearText H) (fun h1 R1 => ?_) rfl F
    obtain ⟨z, k, mo, ms, tx⟩ := R1
    refine spec_mono (m11_clearText mo tx) fun v h2 q => ?_
    obtain ⟨x, e, e1, a, b, f⟩ := q
    exact ⟨x, e, e1, ⟨z, _, a, ms, b⟩, f⟩
  · unfold PC_2
    have q := q_load F hb cs a1
    refine step_5 L H R (fun c hc => ?_) (c10_load H L a1) (fun h1 R1 => m11_loadShape R1 C a1) q
    rw [q.2.1] at hc
    unfold rLoad at hc
    by_cases s : Slt a1
    · rw [ifC_pos s] at hc
      by_cases d : (rwGo cs 3 0 []).1 = true
      · rw [if_pos d] at hc; exact absurd hc List.not_mem_nil
      · rw [if_neg d] at hc; exact C c hc
    · rw [ifC_neg s] at hc; exact C c hc
  · unfold PC_3
    have q := q_clear F m1 a1
    exact step_c L H R C (c10_clearShape H a1) (fun h1 R1 => m11_clearShape R1 a1) q.1 q.2
  · unfold PC_4
    have q := q_copy F hb cs a1 a2 a3
    refine step_5 L H R (fun c hc => ?_) (c10_copy H L a1 a2 a3) (fun h1 R1 => m11_copyShape R1 a1 a2 a3) q
    rw [q.2.1] at hc; exact C c hc
  · exact step_q L H R F C (c10_pieceCount H a1) (fun h1 R1 => m11_pieceCount R1 a1) (q_pieceCount F.1 a1)
  · exact step_q L H R F C (c10_doubleArea H a1 a2) (fun h1 R1 => m11_doubleArea R1 a1 a2) (q_doubleArea F.1 a1 a2)
  · exact step_q L H R F C (c10_hullSize H a1) (fun h1 R1 => m11_hullSize R1 a1 fun s n => hull_ok F.1 s n) (q_hullSize F.1 a1)
  · exact step_q L H R F C (c10_hullVertex H a1 a2 a3) (fun h1 R1 => m11_hullVertex R1 a1 a2 a3 fun s n => hull_ok F.1 s n) (q_hullVertex F.1 a1 a2 a3)
  · exact step_q L H R F C (c10_extent H a1 a2) (fun h1 R1 => m11_extent R1 a1 a2) (q_extent F.1 a1 a2)
  · exact step_q L H R F C (c10_sumSize H a1 a2 a3 a4 a5) (fun h1 R1 => m11_sumSize R1 a1 a2 a3 a4 a5 fun p a b => sum_ok F.1 p a b) (q_sumSize F.1 a1 a2 a3 a4 a5)
  · exact step_q L H R F C (c10_sumVertex H a1 a2 a3 a4 a5 a6) (fun h1 R1 => m11_sumVertex R1 a1 a2 a3 a4 a5 a6 fun p a b => sum_ok F.1 p a b) (q_sumVertex F.1 a1 a2 a3 a4 a5 a6)
  · exact step_q L H R F C (c10_sumArea H a1 a2 a3 a4) (fun h1 R1 => m11_sumDoubleArea R1 a1 a2 a3 a4 fun a b => sum_ok (f := 0) F.1 (Or.inl rfl) a b) (q_sumArea F.1 a1 a2 a3 a4)
  · exact step_q L H R F C (c10_contact H a1 a2 a3 a4) (fun h1 R1 => m11_contact R1 a1 a2 a3 a4) (q_contact F.1 a1 a2 a3 a4)
  · exact step_q L H R F C (c10_gap H a1 a2 a3 a4 a5) (fun h1 R1 => m11_squaredGap R1 a1 a2 a3 a4 a5 fun a b c d e => (gap_ok F.1 a b c d e).1) (q_gap F.1 a1 a2 a3 a4 a5)
  · exact step_q L H R F C (c10_slide H a1 a2 a3 a4 a5 a6) (fun h1 R1 => m11_slide R1 a1 a2 a3 a4 a5 a6 fun a b c d _ l e p => (slide_ok F.1 a b c d e l p).1) (q_slide F.1 a1 a2 a3 a4 a5 a6)
  · have q := q_clr F a1
    exact step_c L H R C (c10_setClearance H a1) (fun h1 R1 => m11_setClearance R1 a1) q.1 q.2
  · have q := q_cont F a1 a2
    exact step_c L H R C (c10_setContainer H a1 a2) (fun h1 R1 => m11_setContainer R1 a1 a2) q.1 q.2
  · have q := q_place F a1 a2 a3
    exact step_c L H R C (c10_place H a1 a2 a3) (fun h1 R1 => m11_place R1 a1 a2 a3) q.1 q.2
  · have q := q_placeBL F a1
    exact step_c L H R C (c10_placeBL H a1 fun s n => (sm_both F.1 (F.1.sl s).1 n).1) (fun h1 R1 => m11_placeBL R1 a1 fun s n => (sm_both F.1 (F.1.sl s).1 fun w => n ((F.1.sl s).1.nil.mp w)).2) q.1 q.2
  · have q := q_placeT F hb cs a1
    refine step_5 L H R (fun c hc => ?_) (c10_placeT H L a1 fun s n t => ?_) (fun h1 R1 => m11_placeTurned R1 a1 fun s n t _ => ?_) q
    · rw [q.2.1] at hc; exact C c hc
    · obtain ⟨j, -, e⟩ := tnS_any t (slM M σ (nx a1))
      rw [e]
      exact (sm_both F.1 ((F.1.sl s).1.qtNr j) (qtN_ne n j)).1
    · exact (sm_both F.1 ((F.1.sl s).1.qtNr t) (qtN_ne (fun w => n ((F.1.sl s).1.nil.mp w)) t)).2
  · have q := q_lay F cs
    have A := c10_loadLayout (E := E) H
    refine step_c (ρ' := (rLay cs ρ ps).2.2.1) (ps' := (rLay cs ρ ps).2.2.2) L H R (fun c hc => ?_) A (fun h1 R1 => ?_) q.1 q.2.2
    · rw [q.2.1] at hc
      unfold rLay at hc
      by_cases d : (lyR cs).1 = true
      · rw [if_pos d] at hc
        cases e : rllGo ρ (lyR cs).2.2 [] with
        | none => rw [e] at hc; exact C c hc
        | some its => rw [e] at hc; exact absurd hc List.not_mem_nil
      · rw [if_neg d] at hc; exact C c hc
    · rw [q.2.1]; exact m11_loadLayout R1 C
  · have q := q_slideI F a1 a2
    exact step_c L H R C (c10_slideItem H a1 a2) (fun h1 R1 => m11_slideItem R1 a1 a2 fun i d => sl_ok F.1 i d) q.1 q.2
  · have q := q_compact F
    exact step_c L H R C (c10_compact H) (fun h1 R1 => m11_compact R1 gd_cmp ⟨M, σ, F.1⟩ (Nat.le_refl _)) q.1 q.2
  · have q := q_remove F a1
    exact step_c L H R C (c10_remove H a1) (fun h1 R1 => m11_removeItem R1 a1) q.1 q.2
  · exact step_q L H R F C (c10_itemCount H) (fun h1 R1 => m11_itemCount R1) (by rw [F.1.n.1])
  · exact step_q L H R F C (c10_itemPlace H a1 a2) (fun h1 R1 => m11_itemPlace R1 a1 a2) (q_itemPlace F.1 a1 a2)
  · exact step_q L H R F C (c10_free H a1 fun s n => (sm_both F.1 (F.1.sl s).1 n).1) (fun h1 R1 => m11_freePlaces R1 a1 fun s n => (sm_both F.1 (F.1.sl s).1 fun w => n ((F.1.sl s).1.nil.mp w)).2) (q_free F.1 a1)
  · exact step_q L H R F C (c10_itemGap H a1 a2 a3) (fun h1 R1 => m11_itemGap R1 a1 a2 a3 fun a b _ => (itemGap_ok F.1 a b).1) (q_itemGap F.1 a1 a2 a3)
  · exact step_q L H R F C (c10_closest H) (fun h1 R1 => m11_closestPair R1) (q_closest F.1)
  · exact step_q L H R F C (c10_itemAt H a1 a2) (fun h1 R1 => m11_itemAt R1 a1 a2) (q_itemAt F.1 a1 a2)
  · exact step_q L H R F C (c10_escapes H a1 a2) (fun h1 R1 => m11_escapes R1 a1 a2) (q_escapes F.1 a1 a2)
  · exact step_q L H R F C (c10_removal H a1 a2) (fun h1 R1 => m11_removalOrder R1 a1 a2) (q_removal F.1 a1 a2)
  · exact step_q L H R F C (c10_packed H) (fun h1 R1 => m11_packed R1) (q_packed F.1)
  · exact step_q L H R F C (c10_box H a1) (fun h1 R1 => m11_boundingBox R1 a1) (q_box F.1 a1)
  · exact step_q L H R F C (c10_touch H) (fun h1 R1 => m11_touchingPairs R1) (q_touch F.1)
  · have q := q_undo F
    exact step_c L H R C (c10_undo H) (fun h1 R1 => m11_undo R1) q.1 q.2
end IV
