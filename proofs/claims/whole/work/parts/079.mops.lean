/-! what the model holds in all; its calls -/
abbrev xL : Type := Nat → Nat × Nat × (Nat → Int64)
def slP (sl : xL) (s e w : Nat) (v : Nat → Int64) : xL := fun k => if k = s then (e, w, v) else sl k
def mS1 (I : Nat → Nat → Int32) (L : Nat → Nat → Int64) (s : Nat) (q : Nat × Nat × (Nat → Int64)) : Prop := q.1 ≤ 61 ∧ I 39 s = nI q.1 ∧ (q.1 ≠ 0 → q.2.1 ≤ 3 ∧ I 40 s = nI q.2.1 ∧ ∀ i, i + 1 < q.1 → L 41 (60 * s + i) = q.2.2 i)
def mS (I : Nat → Nat → Int32) (L : Nat → Nat → Int64) (sl : xL) : Prop := ∀ s, s < 8 → mS1 I L s (sl s)
def mR (I : Nat → Nat → Int32) (L : Nat → Nat → Int64) (D : xD) (sl : xL) (x y : Int) : Prop := okD D ∧ mC I D ∧ mD I D ∧ mS I L sl ∧ Nm (L 38) 0 x ∧ Nm (L 38) 1 y ∧ (¬ I 37 1 = 0 → mKn (L 38) D)
def mFr (I I' : Nat → Nat → Int32) (L L' : Nat → Nat → Int64) : Prop := (∀ a, a < 37 → I' a = I a) ∧ ∀ a, a < 37 → L' a = L a
theorem mFr_rf {I : Nat → Nat → Int32} {L : Nat → Nat → Int64} : mFr I I L L := ⟨fun _ _ => rfl, fun _ _ => rfl⟩
theorem mS_of {I I' : Nat → Nat → Int32} {L L' : Nat → Nat → Int64} {sl : xL} (h1 : I' 39 = I 39) (h2 : I' 40 = I 40) (h3 : L' 41 = L 41) (h : mS I L sl) : mS I' L' sl := by
  unfold mS mS1 at *
  rw [h1, h2, h3]
  exact h
theorem mD_of {I I' : Nat → Nat → Int32} {D : xD} (h : ∀ a, a = 37 ∨ a = 46 → I' a = I a) (hI : mD I D) : mD I' D := by
  unfold mD at *
  rw [h 37 (by omega), h 46 (by omega)]
  exact hI
theorem kF_fr {I I' : Nat → Nat → Int32} (h : kF I I') : ∀ a, a ≠ 37 → I' a = I a := by
  intro a ha
  rcases h with e | e <;> subst e
  · rfl
  · exact xi_un ha
theorem mR_res {I I' : Nat → Nat → Int32} {L : Nat → Nat → Int64} {D : xD} {sl : xL} {x y x' y' : Int} {g p' q' r' : Nat → Int64} (h : mR I L D sl x y) (kf : kF I I') (kn : mKn g D) (n0 : Nm g 0 x') (n1 : Nm g 1 y') : mR I' (mL L g p' q' r') D sl x' y' ∧ mFr I I' L (mL L g p' q' r') := by
  refine ⟨⟨h.1, kF_C kf h.2.1, kF_D kf h.2.2.1, mS_of (kF_fr kf 39 (by decide)) (kF_fr kf 40 (by decide)) (mL_o (by decide)) h.2.2.2.1, n0, n1, fun _ => kn⟩, fun a ha => kF_fr kf a (by omega), fun a ha => mL_o (by omega)⟩
/-- a change of the result alone -/
theorem mR_res2 {I : Nat → Nat → Int32} {L : Nat → Nat → Int64} {D : xD} {sl : xL} {x y x' y' : Int} {g p' q' r' : Nat → Int64} (h : mR I L D sl x y) (kn : ¬ I 37 1 = 0 → mKn g D) (n0 : Nm g 0 x') (n1 : Nm g 1 y') : mR I (mL L g p' q' r') D sl x' y' ∧ mFr I I L (mL L g p' q' r') :=
  ⟨⟨h.1, h.2.1, h.2.2.1, mS_of rfl rfl (mL_o (by decide)) h.2.2.2.1, n0, n1, kn⟩, fun _ _ => rfl, fun a ha => mL_o (by omega)⟩
section MO
variable {L0 : Nat} {xs : Nat → Int32} {Q : xiQ} {I : Nat → Nat → Int32} {L : Nat → Nat → Int64}
variable {D : xD} {sl : xL} {x y A P : Int}
theorem o_mBoth (h : mR I L D sl x y) (hB : okB D A P) {i j : Nat} (hi : i < qN D) (hj : j < qN D)
    (hQ : ∀ I' L', mFr I I' L L' → mR I' L' D sl (rN (c2 D i j) (al D)) (rD (c2 D i j) (al D)) → Q (some (Value.int 1)) (xSH, xRF, I', L')) : xi_V (xG L0 xs) 144 0 [some (Value.ref 37), some (Value.int (nI i)), some (Value.int (nI j)), none] [] (xSH, xRF, I, L) 0 0 Q := by
  rw [← mL_0 (L := L)]
  refine c_mBoth h.1 hB h.2.1 h.2.2.1 h.2.2.2.2.1 h.2.2.2.2.2.1 h.2.2.2.2.2.2 hi hj (fun I' g p' q' r' kf kn n0 n1 => ?_)
  have := mR_res (p' := p') (q' := q') (r' := r') h kf kn n0 n1
  exact hQ _ _ this.2 this.1
theorem o_mSet (h : mR I L D sl x y) (hB : okB D A P) {s : Nat} (hs : s < 2 ^ qN D)
    (hQ : ∀ I' L', mFr I I' L L' → mR I' L' D sl (rN (wt D s) (al D)) (rD (wt D s) (al D)) → Q (some (Value.int 1)) (xSH, xRF, I', L')) : xi_V (xG L0 xs) 146 0 [some (Value.ref 37), some (Value.int (nI s))] [] (xSH, xRF, I, L) 0 0 Q := by
  rw [← mL_0 (L := L)]
  refine c_mSet h.1 hB h.2.1 h.2.2.1 h.2.2.2.2.1 h.2.2.2.2.2.1 h.2.2.2.2.2.2 hs (fun I' g p' q' r' kf kn n0 n1 => ?_)
  have := mR_res (p' := p') (q' := q') (r' := r') h kf kn n0 n1
  exact hQ _ _ this.2 this.1
theorem o_mSets (h : mR I L D sl x y) (hB : okB D A P)
    (hQ : ∀ I' L', mFr I I' L L' → mR I' L' D sl x y → Q (some (Value.int (nI (cs D (2 ^ qN D))))) (xSH, xRF, I', L')) : xi_V (xG L0 xs) 147 0 [some (Value.ref 37), none, none] [] (xSH, xRF, I, L) 0 0 Q := by
  rw [← mL_0 (L := L)]
  refine c_mSets h.1 hB h.2.1 h.2.2.1 h.2.2.2.2.1 h.2.2.2.2.2.1 h.2.2.2.2.2.2 (fun I' g p' q' r' kf kn n0 n1 => ?_)
  have := mR_res (p' := p') (q' := q') (r' := r') h kf kn n0 n1
  exact hQ _ _ this.2 this.1
theorem o_mMany (h : mR I L D sl x y) (hB : okB D A P)
    (hQ : ∀ I' L', mFr I I' L L' → mR I' L' D sl (rN (mnD D (2 ^ qN D)) (al D)) (rD (mnD D (2 ^ qN D)) (al D)) → Q none (xSH, xRF, I', L')) : xi_V (xG L0 xs) 148 0 [some (Value.ref 37), none] [] (xSH, xRF, I, L) 0 0 Q := by
  rw [← mL_0 (L := L)]
  refine c_mMany h.1 hB h.2.1 h.2.2.1 h.2.2.2.2.1 h.2.2.2.2.2.1 h.2.2.2.2.2.2 (fun I' g p' q' r' kf kn n0 n1 => ?_)
  have := mR_res (p' := p') (q' := q') (r' := r') h kf kn n0 n1
  exact hQ _ _ this.2 this.1
theorem o_mSum (h : mR I L D sl x y) (hB : okB D A P) {s : Nat} (hs : s < 2 ^ qN D)
    (hQ : ∀ I' L', mFr I I' L L' → mR I' L' D sl (rN (tD D s (qN D)) (cmn D (qN D))) (rD (tD D s (qN D)) (cmn D (qN D))) → Q (some (Value.int 1)) (xSH, xRF, I', L')) : xi_V (xG L0 xs) 150 0 [some (Value.ref 37), some (Value.int (nI s))] [] (xSH, xRF, I, L) 0 0 Q := by
  rw [← mL_0 (L := L)]
  refine c_mSum h.1 hB h.2.1 h.2.2.1 h.2.2.2.2.1 h.2.2.2.2.2.1 h.2.2.2.2.2.2 hs (fun I' g p' q' r' kf kn n0 n1 => ?_)
  have := mR_res (p' := p') (q' := q') (r' := r') h kf kn n0 n1
  exact hQ _ _ this.2 this.1
theorem o_mMean (h : mR I L D sl x y) (hB : okB D A P)
    (hQ : ∀ I' L', mFr I I' L L' → mR I' L' D sl (rN (fD D (2 ^ qN D)) (al D * cmn D (qN D))) (rD (fD D (2 ^ qN D)) (al D * cmn D (qN D))) → Q none (xSH, xRF, I', L')) : xi_V (xG L0 xs) 152 0 [some (Value.ref 37)] [] (xSH, xRF, I, L) 0 0 Q := by
  rw [← mL_0 (L := L)]
  refine c_mMean h.1 hB h.2.1 h.2.2.1 h.2.2.2.2.1 h.2.2.2.2.2.1 h.2.2.2.2.2.2 (fun I' g p' q' r' kf kn n0 n1 => ?_)
  have := mR_res (p' := p') (q' := q') (r' := r') h kf kn n0 n1
  exact hQ _ _ this.2 this.1
theorem o_mSpread (h : mR I L D sl x y) (hB : okB D A P)
    (hQ : ∀ I' L', mFr I I' L L' → mR I' L' D sl (rN (spN D) (spD D)) (rD (spN D) (spD D)) → Q none (xSH, xRF, I', L')) : xi_V (xG L0 xs) 153 0 [some (Value.ref 37)] [] (xSH, xRF, I, L) 0 0 Q := by
  rw [← mL_0 (L := L)]
  refine c_mSpread h.1 hB h.2.1 h.2.2.1 h.2.2.2.2.1 h.2.2.2.2.2.1 h.2.2.2.2.2.2 (fun I' g p' q' r' kf kn n0 n1 => ?_)
  have := mR_res (p' := p') (q' := q') (r' := r') h kf kn n0 n1
  exact hQ _ _ this.2 this.1
theorem o_mHeap (h : mR I L D sl x y) {k : Nat} (hk : k < 4)
    (hQ : ∀ I' L', mFr I I' L L' → mR I' L' D sl (rN (vD D k) 2520) (rD (vD D k) 2520) → Q (some (Value.int 1)) (xSH, xRF, I', L')) : xi_V (xG L0 xs) 158 0 [some (Value.ref 37), some (Value.int (nI k))] [] (xSH, xRF, I, L) 0 0 Q := by
  have hv := v_b h.1.1 k
  refine b_M_heap_0 (c_mIsHeap1 hk (b_M_heap_4 ⟨fun _ => c_mV h.1.1 h.2.1 hk (b_M_heap_15 ?_), fun c => absurd c (by decide)⟩))
  have e1 : (zL (vD D k)).toInt = vD D k := zL_t (by omega) (by omega)
  have e2 : (2520 : Int64).toInt = 2520 := by decide
  rw [← mL_0 (L := L)]
  refine c_told (by rw [e1]; omega) (by rw [e2]; decide) (fun g p' q' r' k1 n0 n1 => b_M_heap_21 ⟨by decide, ?_⟩)
  rw [e1, e2] at n0 n1
  have := mR_res2 (p' := p') (q' := q') (r' := r') h (fun z => mKn_K k1 (fun c hc => by omega) (h.2.2.2.2.2.2 z)) n0 n1
  exact hQ _ _ this.2 this.1
theorem o_mHeap0 {v : Int32} (hv : v < 0 ∨ 3 < v) (hQ : Q (some (Value.int 0)) (xSH, xRF, I, L)) : xi_V (xG L0 xs) 158 0 [some (Value.ref 37), some (Value.int v)] [] (xSH, xRF, I, L) 0 0 Q :=
  b_M_heap_0 (c_mIsHeap0 hv (b_M_heap_4 ⟨fun c => absurd rfl c, fun _ => ⟨by decide, hQ⟩⟩))
theorem mR_sh {I' : Nat → Nat → Int32} {L' : Nat → Nat → Int64} (h : mR I L D sl x y) (f : shF I I' L L') : mR I' L' D sl x y ∧ mFr I I' L L' := by
  have hL : ∀ a, a ≠ 37 → L' a = L a := fun a ha => by funext b; exact f.2 a b (fun z => ha z.1)
  refine ⟨⟨h.1, mC_of (fun a ha => f.1 a (by omega)) h.2.1, mD_of (fun a ha => f.1 a (by omega)) h.2.2.1, mS_of (f.1 39 (by decide)) (f.1 40 (by decide)) (hL 41 (by decide)) h.2.2.2.1, ?_, ?_, ?_⟩, fun a ha => f.1 a (by omega), fun a ha => hL a (by omega)⟩
  · rw [hL 38 (by decide)]; exact h.2.2.2.2.1
  · rw [hL 38 (by decide)]; exact h.2.2.2.2.2.1
  · rw [hL 38 (by decide), f.1 37 (by decide)]; exact h.2.2.2.2.2.2
/-- which of the best way -/
def bqi (q : Int × Nat × Nat × Nat × Nat) (k : Nat) : Nat := if k = 0 then q.2.1 else if k = 1 then q.2.2.1 else if k = 2 then q.2.2.2.1 else q.2.2.2.2
theorem o_mShare (h : mR I L D sl x y) {t k : Nat} (hk : k < 4) (h1 : shn D 4 ≤ t) (h2 : t ≤ qN D) {q : Int × Nat × Nat × Nat × Nat} (hq : shA D t (nh D 0) none = some q)
    (hQ : ∀ I' L', mFr I I' L L' → mR I' L' D sl x y → Q (some (Value.int (nI (bqi q k)))) (xSH, xRF, I', L')) : xi_V (xG L0 xs) 162 0 [some (Value.ref 37), some (Value.int (nI t)), some (Value.int (nI k))] [] (xSH, xRF, I, L) 0 0 Q := by
  refine b_M_share_0 (c_mIsHeap1 hk (b_M_share_4 ⟨fun _ => c_isShared1 h.1.1 h.2.1 h1 h2 (fun I' L' f r => b_M_share_15 ⟨fun c => absurd c (by decide), fun _ => ⟨pk_in k 4 hk, ?_⟩⟩), fun c => absurd c (by decide)⟩))
  rw [hq] at r
  obtain ⟨-, -, r0, r1, r2, r3⟩ := r
  have := mR_sh h f
  have e : I' 51 k = nI (bqi q k) := by
    unfold bqi
    rcases (show k = 0 ∨ k = 1 ∨ k = 2 ∨ k = 3 by omega) with e | e | e | e <;> subst e
    · exact r0
    · exact r1
    · exact r2
    · exact r3
  rw [nI_clamp (by omega), e]
  exact hQ _ _ this.2 this.1
theorem o_mShare0 {v w : Int32} (hv : w < 0 ∨ 3 < w) (hQ : Q (some (Value.int (-2))) (xSH, xRF, I, L)) : xi_V (xG L0 xs) 162 0 [some (Value.ref 37), some (Value.int v), some (Value.int w)] [] (xSH, xRF, I, L) 0 0 Q :=
  b_M_share_0 (c_mIsHeap0 hv (b_M_share_4 ⟨fun c => absurd rfl c, fun _ => hQ⟩))
theorem o_mShare1 (h : mR I L D sl x y) {v : Int32} {k : Nat} (hk : k < 4) (hv : v < nI (shn D 4) ∨ nI (qN D) < v) (hQ : Q (some (Value.int (-4))) (xSH, xRF, I, L)) : xi_V (xG L0 xs) 162 0 [some (Value.ref 37), some (Value.int v), some (Value.int (nI k))] [] (xSH, xRF, I, L) 0 0 Q :=
  b_M_share_0 (c_mIsHeap1 hk (b_M_share_4 ⟨fun _ => c_isShared0 h.1.1 h.2.1 hv (b_M_share_15 ⟨fun _ => hQ, fun c => absurd rfl c⟩), fun c => absurd c (by decide)⟩))
theorem o_mLeast (h : mR I L D sl x y) {t : Nat} (h1 : shn D 4 ≤ t) (h2 : t ≤ qN D) {q : Int × Nat × Nat × Nat × Nat} (hq : shA D t (nh D 0) none = some q)
    (hQ : ∀ I' L', mFr I I' L L' → mR I' L' D sl (rN q.1 6350400) (rD q.1 6350400) → Q (some (Value.int 1)) (xSH, xRF, I', L')) : xi_V (xG L0 xs) 171 0 [some (Value.ref 37), some (Value.int (nI t))] [] (xSH, xRF, I, L) 0 0 Q := by
  refine b_M_least_0 (c_isShared1 h.1.1 h.2.1 h1 h2 (fun I' L' f r => b_M_least_5 ⟨fun _ => ?_, fun c => absurd c (by decide)⟩))
  rw [hq] at r
  obtain ⟨r0, r1, -⟩ := r
  have h' := mR_sh h f
  have e1 : (zL q.1).toInt = q.1 := zL_t (by omega) (by omega)
  have e2 : (6350400 : Int64).toInt = 6350400 := by decide
  rw [r1, ← mL_0 (L := L')]
  refine c_told (by rw [e1]; omega) (by rw [e2]; decide) (fun g p' q' r' k1 n0 n1 => b_M_least_21 ⟨by decide, ?_⟩)
  rw [e1, e2] at n0 n1
  have := mR_res2 (p' := p') (q' := q') (r' := r') h'.1 (fun z => mKn_K k1 (fun c hc => by omega) (h'.1.2.2.2.2.2.2 z)) n0 n1
  exact hQ _ _ ⟨fun a ha => (this.2.1 a ha).trans (h'.2.1 a ha), fun a ha => (this.2.2 a ha).trans (h'.2.2 a ha)⟩ this.1
theorem o_mLeast0 (h : mR I L D sl x y) {v : Int32} (hv : v < nI (shn D 4) ∨ nI (qN D) < v) (hQ : Q (some (Value.int 0)) (xSH, xRF, I, L)) : xi_V (xG L0 xs) 171 0 [some (Value.ref 37), some (Value.int v)] [] (xSH, xRF, I, L) 0 0 Q :=
  b_M_least_0 (c_isShared0 h.1.1 h.2.1 hv (b_M_least_5 ⟨fun c => absurd rfl c, fun _ => ⟨by decide, hQ⟩⟩))
end MO
