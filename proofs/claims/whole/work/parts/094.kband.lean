/-! cut, bandOf; bands and band of the class -/
theorem dpT_next {I : Nat → Nat → Int32} {D : xD} {k b : Nat} (h : dpT I D k b) (hb : qN D < b + k) : dpT I D (k + 1) 0 := by
  intro j a j1 j2 j3
  refine h j a j1 j2 ?_
  rcases j3 with z | ⟨_, z⟩
  · rcases Nat.lt_succ_iff_lt_or_eq.mp z with w | w
    · exact Or.inl w
    · exact Or.inr ⟨w, by omega⟩
  · exact absurd z (Nat.not_lt_zero a)
section KBD
variable {L0 : Nat} {xs : Nat → Int32} {Q : xiQ} {I : Nat → Nat → Int32} {L : Nat → Nat → Int64}
variable {D : xD} {sl : xL} {x y : Int}
theorem pf_of {I' : Nat → Nat → Int32} {u t : Int32} {e : Nat} (f : ∀ b, b ≠ 35 → b ≠ 36 → I' b = I b) (h : pfR I D u t e) : pfR I' D u t e := by
  unfold pfR at *
  rw [f 33 (by decide) (by decide), f 34 (by decide) (by decide)]
  exact h
theorem c_kCut7 (hC : okC D) (hI : kC I D) {u t v2 : Int32} (hp : pfR I D u t (qN D + 1))
    (hQ : ∀ I', (∀ b, b ≠ 35 → b ≠ 36 → I' b = I b) → dpT I' D 1 (qN D) → xi_V (xG L0 xs) 26 44 [some (Value.ref 31), some (Value.ref 5), some (Value.int v2), some (Value.int ((2 : Int32))), none] [] (xSH, xRF, I', L) 0 0 Q) :
    ∀ (m a : Nat) (I1 : Nat → Nat → Int32), a + m = qN D → (∀ b, b ≠ 35 → b ≠ 36 → I1 b = I b) → dpT I1 D 1 a → xi_V (xG L0 xs) 26 7 [some (Value.ref 31), some (Value.ref 5), some (Value.int v2), some (Value.int (nI a)), none] [] (xSH, xRF, I1, L) 0 0 Q
  | 0, a, I1, hm, f, ht => by
    have h10 := hC.1
    have hI1 : kC I1 D := kC_of (fun b b1 b2 => f b (by omega) (by omega)) hI
    refine b_Cutting_cut_7 ?_
    rw [hI1.1]
    rw [show a = qN D by omega] at ht ⊢
    exact pk_le (qN D) (qN D) (fun _ => hQ I1 f ht) (fun c => absurd c (by omega))
  | m + 1, a, I1, hm, f, ht => by
    have h10 := hC.1
    have hI1 : kC I1 D := kC_of (fun b b1 b2 => f b (by omega) (by omega)) hI
    refine b_Cutting_cut_7 ?_
    rw [hI1.1, pk_sub (show a ≤ qN D by omega)]
    refine pk_le (qN D) a (fun c => absurd c (by omega)) (fun _ => c_kCst hC (pf_of f hp) (by omega) (Nat.le_refl _) (b_Cutting_cut_33 ?_))
    refine c_kChoose (k := 1) (by decide) (by omega) (b_Cutting_cut_36 ?_)
    rw [nI_1]
    refine c_kCut7 hC hI hp hQ m (a + 1) _ (by omega) (fun b b1 b2 => by rw [xi_un b2, xi_un b1]; exact f b b1 b2) (fun j b j1 j2 j3 => ?_)
    rw [xi_un (show 35 ≠ 36 by decide)]
    by_cases e : 11 * j + b = 11 * 1 + a
    · have ej : j = 1 ∧ b = a := by omega
      obtain ⟨rfl, rfl⟩ := ej
      rw [xi_us, xi_us, dpv]
      exact ⟨rfl, rfl⟩
    · rw [xi_uj e, xi_uj e, xi_un (show 36 ≠ 35 by decide)]
      refine ht j b j1 j2 ?_
      rcases j3 with z | ⟨z, w⟩
      · exact Or.inl z
      · subst z; exact Or.inr ⟨rfl, by omega⟩
theorem c_kCut52 (hC : okC D) (hI : kC I D) {u t v2 : Int32} (hp : pfR I D u t (qN D + 1)) {k : Nat} (hk : k + 2 ≤ qN D)
    (hQ : ∀ I', (∀ b, b ≠ 35 → b ≠ 36 → I' b = I b) → dpT I' D (k + 3) 0 → xi_V (xG L0 xs) 26 44 [some (Value.ref 31), some (Value.ref 5), some (Value.int v2), some (Value.int (nI (k + 3))), none] [] (xSH, xRF, I', L) 0 0 Q) :
    ∀ (m a : Nat) (I1 : Nat → Nat → Int32), a + m = qN D - (k + 2) + 1 → (∀ b, b ≠ 35 → b ≠ 36 → I1 b = I b) → dpT I1 D (k + 2) a → xi_V (xG L0 xs) 26 52 [some (Value.ref 31), some (Value.ref 5), some (Value.int v2), some (Value.int (nI (k + 2))), some (Value.int (nI a))] [] (xSH, xRF, I1, L) 0 0 Q
  | 0, a, I1, hm, f, ht => by
    have h10 := hC.1
    have hI1 : kC I1 D := kC_of (fun b b1 b2 => f b (by omega) (by omega)) hI
    refine b_Cutting_cut_52 ?_
    rw [hI1.1, pk_sub hk, nI_1]
    exact pk_lt (qN D - (k + 2)) a (fun _ => hQ I1 f (dpT_next ht (by omega))) (fun c => absurd c (by omega))
  | m + 1, a, I1, hm, f, ht => by
    have h10 := hC.1
    have hI1 : kC I1 D := kC_of (fun b b1 b2 => f b (by omega) (by omega)) hI
    refine b_Cutting_cut_52 ?_
    rw [hI1.1, pk_sub hk, nI_1]
    refine pk_lt (qN D - (k + 2)) a (fun c => absurd c (by omega)) (fun _ => ?_)
    rw [nI_1]
    refine c_kFirst hC (pf_of f hp) (by omega) ht (fun I2 g1 g2 => b_Cutting_cut_78 ?_)
    rw [nI_1]
    exact c_kCut52 hC hI hp hk hQ m (a + 1) I2 (by omega) (fun b b1 b2 => (g1 b b1 b2).trans (f b b1 b2)) g2
theorem c_kCut44 (hC : okC D) (hI : kC I D) {u t : Int32} (hp : pfR I D u t (qN D + 1)) {k : Nat} (hk : k ≤ qN D)
    (hQ : ∀ I', (∀ b, b ≠ 35 → b ≠ 36 → I' b = I b) → dpT I' D (k + 1) 0 → Q none (xSH, xRF, I', L)) :
    ∀ (m s : Nat) (I1 : Nat → Nat → Int32), s + m = k + 1 → 2 ≤ s → (∀ b, b ≠ 35 → b ≠ 36 → I1 b = I b) → dpT I1 D s 0 → xi_V (xG L0 xs) 26 44 [some (Value.ref 31), some (Value.ref 5), some (Value.int (nI k)), some (Value.int (nI s)), none] [] (xSH, xRF, I1, L) 0 0 Q
  | 0, s, I1, hm, hs, f, ht => by
    have h10 := hC.1
    rw [show s = k + 1 by omega] at ht ⊢
    exact b_Cutting_cut_44 (pk_lt k (k + 1) (fun _ => hQ I1 f ht) (fun c => absurd c (by omega)))
  | m + 1, s, I1, hm, hs, f, ht => by
    have h10 := hC.1
    obtain ⟨j, rfl⟩ : ∃ j, s = j + 2 := ⟨s - 2, by omega⟩
    refine b_Cutting_cut_44 (pk_lt k (j + 2) (fun c => absurd c (by omega)) (fun _ => ?_))
    refine c_kCut52 (I := I) hC hI hp (by omega) (fun I2 g1 g2 => c_kCut44 hC hI hp hk hQ m (j + 3) I2 (by omega) (by omega) g1 g2) (qN D - (j + 2) + 1) 0 I1 (Nat.zero_add _) f ht
/-- cut -/
theorem c_kCutAll (hC : okC D) (hI : kC I D) {k : Nat} (hk : k ≤ qN D) (hk1 : 1 ≤ k)
    (hQ : ∀ I', cuFr I I' → (∀ i, i < qN D → I' 32 i = nI (rk D i)) → dpT I' D (k + 1) 0 → Q none (xSH, xRF, I', L)) : xi_V (xG L0 xs) 26 0 [some (Value.ref 31), some (Value.ref 5), some (Value.int (nI k)), none, none] [] (xSH, xRF, I, L) 0 0 Q := by
  have h10 := hC.1
  refine b_Cutting_cut_0 (c_kOrder hC hI (fun I1 u t f1 f2 f3 => b_Cutting_cut_5 ?_))
  have hI1 : kC I1 D := kC_of (fun a a1 a2 => f1 a (by omega) (by omega) (by omega)) hI
  refine c_kCut7 (I := I1) hC hI1 f3 (fun I2 g1 g2 => ?_) (qN D) 0 I1 (Nat.zero_add _) (fun _ _ _ => rfl) (fun j a j1 j2 j3 => by omega)
  have hI2 : kC I2 D := kC_of (fun a a1 a2 => g1 a (by omega) (by omega)) hI1
  refine c_kCut44 (I := I1) hC hI1 f3 hk (fun I3 k1 k2 => hQ I3 (fun a ha => by rw [k1 a (by omega) (by omega), f1 a (by omega) (by omega) (by omega)]) (fun i hi => by rw [k1 32 (by decide) (by decide)]; exact f2 i hi) k2) (k - 1) 2 I2 (by omega) (Nat.le_refl 2) g1 (dpT_next g2 (by omega))
theorem kR_cu {I' : Nat → Nat → Int32} (h : kR I L D sl x y) (f : cuFr I I') : kR I' L D sl x y ∧ kFr I I' L L := by
  refine ⟨⟨h.1, kC_cu f h.2.1, kD_of (fun a ha => f a (by omega)) h.2.2.1, kS_of (f 3 (by decide)) (f 4 (by decide)) rfl h.2.2.2.1, kRes_of (f 14 (by decide)) rfl rfl h.2.2.2.2.1, fun z => ?_⟩, fun a ha => f a (by omega), fun a ha => rfl⟩
  rw [f 10 (by decide)] at z
  exact h.2.2.2.2.2 z
theorem o_kBands (h : kR I L D sl x y) {k : Nat} (hk : k + 1 ≤ qN D)
    (hQ : ∀ I' L', kFr I I' L L' → kR I' L' D sl x y → Q (some (Value.int (zI (dpv D (k + 1) 0).1))) (xSH, xRF, I', L')) : xi_V (xG L0 xs) 88 0 [some (Value.ref 0), some (Value.int (nI (k + 1)))] [] (xSH, xRF, I, L) 0 0 Q := by
  have h10 := h.1.1.1
  refine b_D_bands_0 ?_
  rw [h.2.1.1]
  refine pk_lt (k + 1) 1 (fun c => absurd c (by omega)) (fun _ => pk_le (k + 1) (qN D) (fun _ => c_kCutAll h.1.1 h.2.1 hk (by omega) (fun I' f p t => b_D_bands_30 ?_)) (fun c => absurd c (by omega)))
  have := kR_cu h f
  exact c_kLeastOf (k := k + 1) (a := 0) (by omega) (by decide) (t (k + 1) 0 (by omega) (by omega) (Or.inl (by omega))).1 (b_D_bands_39 (hQ _ _ this.2 this.1))
theorem o_kBands0 (h : kR I L D sl x y) {v : Int32} (hv : v < 1 ∨ ¬ v ≤ nI (qN D)) (hQ : Q (some (Value.int (-1))) (xSH, xRF, I, L)) : xi_V (xG L0 xs) 88 0 [some (Value.ref 0), some (Value.int v)] [] (xSH, xRF, I, L) 0 0 Q := by
  refine b_D_bands_0 ?_
  rw [h.2.1.1]
  exact ⟨fun _ => hQ, fun c => ⟨fun c2 => absurd c2 (hv.resolve_left c), fun _ => hQ⟩⟩
theorem dpm_pre {D : xD} {k a r : Nat} (h : a + (k + 2) ≤ qN D) (hr : r < (dpv D (k + 2) a).2) : cnt (dpm D (k + 2) a) a (r - a) = 0 := by
  have h2 := dpv_2 (D := D) (k := k) (a := a) h
  refine cnt_z (fun q hq => ?_)
  rw [dpm, bt_set, if_neg (by omega)]
  exact dpm_lo (by omega) (by omega)
theorem dpm_post {D : xD} {k a r : Nat} (h : a + (k + 2) ≤ qN D) (hr : (dpv D (k + 2) a).2 ≤ r) : cnt (dpm D (k + 2) a) a (r - a) = 1 + cnt (dpm D (k + 1) (dpv D (k + 2) a).2) (dpv D (k + 2) a).2 (r - (dpv D (k + 2) a).2) := by
  have h2 := dpv_2 (D := D) (k := k) (a := a) h
  generalize hE : (dpv D (k + 2) a).2 = E at *
  have hb : ∀ q, bt (dpm D (k + 2) a) q = if q = E - 1 then 1 else bt (dpm D (k + 1) E) q := fun q => by rw [dpm, hE, bt_set]
  have e1 : r - a = (E - 1 - a) + (1 + (r - E)) := by omega
  have c1 : cnt (dpm D (k + 2) a) a (E - 1 - a) = 0 := cnt_z (fun q hq => by rw [hb, if_neg (by omega)]; exact dpm_lo (by omega) (by omega))
  have c2 : cnt (dpm D (k + 2) a) (a + (E - 1 - a)) 1 = 1 := by
    rw [cnt, cnt, hb, if_pos (by omega)]
  have c3 : cnt (dpm D (k + 2) a) (a + (E - 1 - a) + 1) (r - E) = cnt (dpm D (k + 1) E) E (r - E) := by
    rw [show a + (E - 1 - a) + 1 = E by omega]
    have : ∀ n, cnt (dpm D (k + 2) a) E n = cnt (dpm D (k + 1) E) E n := by
      intro n
      induction n with
      | zero => rfl
      | succ n ih => rw [cnt, cnt, ih, hb, if_neg (by omega)]
    exact this _
  rw [e1, cnt_split, c1, cnt_split, c2, c3]
  omega
theorem c_kBandOf (hC : okC D) {K nm : Nat} (hK : K ≤ qN D) (hn : nm < qN D) (h32 : I 32 nm = nI (rk D nm)) (ht : dpT I D (K + 1) 0) :
    ∀ (k a i : Nat), i + (k + 1) = K → a + (k + 1) ≤ qN D → a ≤ rk D nm → Q (some (Value.int (nI (i + cnt (dpm D (k + 1) a) a (rk D nm - a))))) (xSH, xRF, I, L) → xi_V (xG L0 xs) 31 5 [some (Value.ref 31), some (Value.int (nI K)), some (Value.int (nI nm)), some (Value.int (nI a)), some (Value.int (nI i))] [] (xSH, xRF, I, L) 0 0 Q
  | 0, a, i, hi, ha, hr, hQ => by
    have h10 := hC.1
    have hrn := rk_lt hn
    have e := (ht 1 a (by omega) ha (Or.inl (by omega))).2
    refine b_Cutting_bandOf_5 (pk_le K i (fun c => absurd c (by omega)) (fun _ => ?_))
    rw [pk_sub (by omega), show (11 : Int32) = nI 11 from rfl, pk_mul, nI_add, show (K - i) * 11 + a = 11 * 1 + a by omega, nI_clamp (by omega), e, nI_clamp (show nm < 2 ^ 31 by omega), h32, show (dpv D 1 a).2 = qN D from rfl, nI_add, show a + (qN D - a) = qN D by omega]
    refine ⟨pk_in _ 121 (show 11 * 1 + a < 121 by omega), pk_in nm 10 (by omega), pk_le (qN D) (rk D nm) (fun c => absurd c (by omega)) (fun _ => ?_)⟩
    rw [show dpm D (0 + 1) a = 0 from rfl, cnt_z (fun q _ => bt_zero _), Nat.add_zero] at hQ
    exact hQ
  | k + 1, a, i, hi, ha, hr, hQ => by
    have h10 := hC.1
    have hrn := rk_lt hn
    have h2 := dpv_2 (D := D) (k := k) (a := a) ha
    have e := (ht (k + 2) a (by omega) ha (Or.inl (by omega))).2
    refine b_Cutting_bandOf_5 (pk_le K i (fun c => absurd c (by omega)) (fun _ => ?_))
    rw [pk_sub (by omega), show (11 : Int32) = nI 11 from rfl, pk_mul, nI_add, show (K - i) * 11 + a = 11 * (k + 2) + a by rw [show K - i = k + 2 by omega, Nat.mul_comm], nI_clamp (by omega), e, nI_clamp (show nm < 2 ^ 31 by omega), h32, nI_add, show a + ((dpv D (k + 2) a).2 - a) = (dpv D (k + 2) a).2 by omega, nI_1]
    refine ⟨pk_in _ 121 (show 11 * (k + 2) + a < 121 by omega), pk_in nm 10 (by omega), pk_le ((dpv D (k + 2) a).2) (rk D nm) (fun c => ?_) (fun c => ?_)⟩
    · refine c_kBandOf hC hK hn h32 ht k (dpv D (k + 2) a).2 (i + 1) (by omega) (by omega) c ?_
      rw [dpm_post ha c, ← Nat.add_assoc] at hQ
      exact hQ
    · rw [dpm_pre ha c, Nat.add_zero] at hQ
      exact hQ
theorem o_kBand (h : kR I L D sl x y) {k i : Nat} (hk : k + 1 ≤ qN D) (hi : i < qN D)
    (hQ : ∀ I' L', kFr I I' L L' → kR I' L' D sl x y → Q (some (Value.int (nI (bc (dpm D (k + 1) 0) (rk D i))))) (xSH, xRF, I', L')) : xi_V (xG L0 xs) 89 0 [some (Value.ref 0), some (Value.int (nI (k + 1))), some (Value.int (nI i))] [] (xSH, xRF, I, L) 0 0 Q := by
  have h10 := h.1.1.1
  refine b_D_band_0 ?_
  rw [h.2.1.1]
  refine pk_lt (k + 1) 1 (fun c => absurd c (by omega)) (fun _ => pk_lt (qN D) (k + 1) (fun c => absurd c (by omega)) (fun _ => c_kIsName1 h.1.1 h.2.1 hi (b_D_band_21 ⟨fun _ => c_kCutAll h.1.1 h.2.1 hk (by omega) (fun I' f p t => b_D_band_38 (b_Cutting_bandOf_0 ?_)), fun c => absurd c (by decide)⟩)))
  have := kR_cu h f
  refine c_kBandOf h.1.1 hk hi (p i hi) t k 0 0 (by omega) (by omega) (Nat.zero_le _) (b_D_band_47 ?_)
  rw [Nat.zero_add, Nat.sub_zero, cnt_bc]
  exact hQ _ _ this.2 this.1
theorem o_kBand0 (h : kR I L D sl x y) {v w : Int32} (hv : (v < 1 ∨ ¬ v ≤ nI (qN D)) ∨ (w < 0 ∨ nI (qN D) ≤ w)) (hQ : Q (some (Value.int (-1))) (xSH, xRF, I, L)) : xi_V (xG L0 xs) 89 0 [some (Value.ref 0), some (Value.int v), some (Value.int w)] [] (xSH, xRF, I, L) 0 0 Q := by
  refine b_D_band_0 ?_
  rw [h.2.1.1]
  refine ⟨fun _ => hQ, fun c => ⟨fun _ => hQ, fun c2 => c_kIsName0 h.2.1 (hv.resolve_left (fun z => ?_)) (b_D_band_21 ⟨fun c => absurd rfl c, fun _ => hQ⟩)⟩⟩
  rcases z with z | z
  · exact c z
  · rw [Int32.lt_iff_toInt_lt] at c2
    rw [Int32.le_iff_toInt_le] at z
    omega
end KBD
