section XIS7
variable {T : List Cond} {cl : List vw_C} {zs : xiZ} {tf : Nat → Nat → FieldType} {l : Launch} {G : xiG}
theorem xi_memT {rc : Nat} {w : Cond} (h : T[rc]? = some w) : w ∈ T := List.mem_of_getElem? h
set_option maxHeartbeats 8000000 in
theorem xi_closed (hG : xi_good T cl zs tf G) : xi_cl G (xi_OK T cl zs l G) := by
  obtain ⟨hgw, hgc, hgm⟩ := hG
  intro X' hX' μ pc ls st σ nc ns Q h md hmd p e s m args below meth c R Z D A ad ca H locs lsA hC hO hR hl hret
  have h' := h.symm
  clear h
  rcases h' with ⟨is, h⟩ | h
  · exact hX' _ _ _ _ _ _ _ _ h md hmd p e s m args below meth c R Z D A ad ca H locs lsA hC hO hR (xi_has hl (xi_fg_mem is ls)) hret
  unfold xi_step at h
  rw [hmd] at h
  dsimp only at h
  cases hlk : xi_look md.2.2.2 pc with
  | none => rw [hlk] at h; exact h.elim
  | some q =>
  obtain ⟨ins, len, ra, rb, rc⟩ := q
  rw [hlk] at h
  dsimp only at h
  have hE := (hgm μ md hmd).2 _ (xi_look_mem _ hlk)
  have hM : ∀ (ν : Nat) (mn : xiM), G.1[ν]? = some mn → mn.1.1 ≠ "law" → xi_okM T mn = true := fun ν mn hh => (hgm ν mn hh).1
  unfold xi_okE at hE
  rw [Bool.and_eq_true, decide_eq_true_eq] at hE
  obtain ⟨hd, hE⟩ := hE
  dsimp only at hd hE
  clear hlk
  cases ins <;> dsimp only at h hE <;> (try exact h.elim)
  case iconst n =>
    have e := Nat.eq_of_beq_eq_true hE
    simp only [xi_len] at e
    subst e
    exact xi_s_iconst hX' hmd hC hO hR hl hret hd h
  case bipush n =>
    have e := Nat.eq_of_beq_eq_true hE
    simp only [xi_len] at e
    subst e
    exact xi_s_bipush hX' hmd hC hO hR hl hret hd h
  case sipush n =>
    have e := Nat.eq_of_beq_eq_true hE
    simp only [xi_len] at e
    subst e
    exact xi_s_sipush hX' hmd hC hO hR hl hret hd h
  case lconst n =>
    have e := Nat.eq_of_beq_eq_true hE
    simp only [xi_len] at e
    subst e
    exact xi_s_lconst hX' hmd hC hO hR hl hret hd h
  case iload_n k =>
    have e := Nat.eq_of_beq_eq_true hE
    simp only [xi_len] at e
    subst e
    exact xi_s_iload_n hX' hmd hC hO hR hl hret hd h
  case iload k =>
    have e := Nat.eq_of_beq_eq_true hE
    simp only [xi_len] at e
    subst e
    exact xi_s_iload hX' hmd hC hO hR hl hret hd h
  case lload_n k =>
    have e := Nat.eq_of_beq_eq_true hE
    simp only [xi_len] at e
    subst e
    exact xi_s_lload_n hX' hmd hC hO hR hl hret hd h
  case lload k =>
    have e := Nat.eq_of_beq_eq_true hE
    simp only [xi_len] at e
    subst e
    exact xi_s_lload hX' hmd hC hO hR hl hret hd h
  case aload_n k =>
    have e := Nat.eq_of_beq_eq_true hE
    simp only [xi_len] at e
    subst e
    exact xi_s_aload_n hX' hmd hC hO hR hl hret hd h
  case aload k =>
    have e := Nat.eq_of_beq_eq_true hE
    simp only [xi_len] at e
    subst e
    exact xi_s_aload hX' hmd hC hO hR hl hret hd h
  case istore_n k =>
    have e := Nat.eq_of_beq_eq_true hE
    simp only [xi_len] at e
    subst e
    exact xi_s_istore_n hX' hmd hC hO hR hl hret hd h
  case istore k =>
    have e := Nat.eq_of_beq_eq_true hE
    simp only [xi_len] at e
    subst e
    exact xi_s_istore hX' hmd hC hO hR hl hret hd h
  case lstore_n k =>
    have e := Nat.eq_of_beq_eq_true hE
    simp only [xi_len] at e
    subst e
    exact xi_s_lstore_n hX' hmd hC hO hR hl hret hd h
  case lstore k =>
    have e := Nat.eq_of_beq_eq_true hE
    simp only [xi_len] at e
    subst e
    exact xi_s_lstore hX' hmd hC hO hR hl hret hd h
  case iinc k n =>
    have e := Nat.eq_of_beq_eq_true hE
    simp only [xi_len] at e
    subst e
    exact xi_s_iinc hX' hmd hC hO hR hl hret hd h
  case iadd =>
    have e := Nat.eq_of_beq_eq_true hE
    simp only [xi_len] at e
    subst e
    exact xi_s_iadd hX' hmd hC hO hR hl hret hd h
  case isub =>
    have e := Nat.eq_of_beq_eq_true hE
    simp only [xi_len] at e
    subst e
    exact xi_s_isub hX' hmd hC hO hR hl hret hd h
  case imul =>
    have e := Nat.eq_of_beq_eq_true hE
    simp only [xi_len] at e
    subst e
    exact xi_s_imul hX' hmd hC hO hR hl hret hd h
  case iand =>
    have e := Nat.eq_of_beq_eq_true hE
    simp only [xi_len] at e
    subst e
    exact xi_s_iand hX' hmd hC hO hR hl hret hd h
  case ior =>
    have e := Nat.eq_of_beq_eq_true hE
    simp only [xi_len] at e
    subst e
    exact xi_s_ior hX' hmd hC hO hR hl hret hd h
  case ixor =>
    have e := Nat.eq_of_beq_eq_true hE
    simp only [xi_len] at e
    subst e
    exact xi_s_ixor hX' hmd hC hO hR hl hret hd h
  case irem =>
    have e := Nat.eq_of_beq_eq_true hE
    simp only [xi_len] at e
    subst e
    exact xi_s_irem hX' hmd hC hO hR hl hret hd h
  case ishl =>
    have e := Nat.eq_of_beq_eq_true hE
    simp only [xi_len] at e
    subst e
    exact xi_s_ishl hX' hmd hC hO hR hl hret hd h
  case ishr =>
    have e := Nat.eq_of_beq_eq_true hE
    simp only [xi_len] at e
    subst e
    exact xi_s_ishr hX' hmd hC hO hR hl hret hd h
  case iushr =>
    have e := Nat.eq_of_beq_eq_true hE
    simp only [xi_len] at e
    subst e
    exact xi_s_iushr hX' hmd hC hO hR hl hret hd h
  case ineg =>
    have e := Nat.eq_of_beq_eq_true hE
    simp only [xi_len] at e
    subst e
    exact xi_s_ineg hX' hmd hC hO hR hl hret hd h
  case i2l =>
    have e := Nat.eq_of_beq_eq_true hE
    simp only [xi_len] at e
    subst e
    exact xi_s_i2l hX' hmd hC hO hR hl hret hd h
  case i2b =>
    have e := Nat.eq_of_beq_eq_true hE
    simp only [xi_len] at e
    subst e
    exact xi_s_i2b hX' hmd hC hO hR hl hret hd h
  case i2s =>
    have e := Nat.eq_of_beq_eq_true hE
    simp only [xi_len] at e
    subst e
    exact xi_s_i2s hX' hmd hC hO hR hl hret hd h
  case l2i =>
    have e := Nat.eq_of_beq_eq_true hE
    simp only [xi_len] at e
    subst e
    exact xi_s_l2i hX' hmd hC hO hR hl hret hd h
  case lneg =>
    have e := Nat.eq_of_beq_eq_true hE
    simp only [xi_len] at e
    subst e
    exact xi_s_lneg hX' hmd hC hO hR hl hret hd h
  case ladd =>
    have e := Nat.eq_of_beq_eq_true hE
    simp only [xi_len] at e
    subst e
    exact xi_s_ladd hX' hmd hC hO hR hl hret hd h
  case lsub =>
    have e := Nat.eq_of_beq_eq_true hE
    simp only [xi_len] at e
    subst e
    exact xi_s_lsub hX' hmd hC hO hR hl hret hd h
  case lmul =>
    have e := Nat.eq_of_beq_eq_true hE
    simp only [xi_len] at e
    subst e
    exact xi_s_lmul hX' hmd hC hO hR hl hret hd h
  case land =>
    have e := Nat.eq_of_beq_eq_true hE
    simp only [xi_len] at e
    subst e
    exact xi_s_land hX' hmd hC hO hR hl hret hd h
  case lor =>
    have e := Nat.eq_of_beq_eq_true hE
    simp only [xi_len] at e
    subst e
    exact xi_s_lor hX' hmd hC hO hR hl hret hd h
  case lxor =>
    have e := Nat.eq_of_beq_eq_true hE
    simp only [xi_len] at e
    subst e
    exact xi_s_lxor hX' hmd hC hO hR hl hret hd h
  case ldiv =>
    have e := Nat.eq_of_beq_eq_true hE
    simp only [xi_len] at e
    subst e
    exact xi_s_ldiv hX' hmd hC hO hR hl hret hd h
  case lrem =>
    have e := Nat.eq_of_beq_eq_true hE
    simp only [xi_len] at e
    subst e
    exact xi_s_lrem hX' hmd hC hO hR hl hret hd h
  case lcmp =>
    have e := Nat.eq_of_beq_eq_true hE
    simp only [xi_len] at e
    subst e
    exact xi_s_lcmp hX' hmd hC hO hR hl hret hd h
  case astore_n k =>
    have e := Nat.eq_of_beq_eq_true hE
    simp only [xi_len] at e
    subst e
    split at h
    · exact xi_s_astore_n hX' hmd hC hO hR hl hret rfl hd h
    · exact h.elim
  case lshl =>
    have e := Nat.eq_of_beq_eq_true hE
    simp only [xi_len] at e
    subst e
    split at h
    · exact xi_s_lshl hX' hmd hC hO hR hl hret rfl hd h
    · exact h.elim
  case dup =>
    have e := Nat.eq_of_beq_eq_true hE
    simp only [xi_len] at e
    subst e
    split at h
    · exact xi_s_dup hX' hmd hC hO hR hl hret rfl hd h
    · exact h.elim
  case dup2 =>
    have e := Nat.eq_of_beq_eq_true hE
    simp only [xi_len] at e
    subst e
    split at h
    · exact xi_s_dup2 hX' hmd hC hO hR hl hret rfl hd h
    · exact h.elim
  case pop2 =>
    have e := Nat.eq_of_beq_eq_true hE
    simp only [xi_len] at e
    subst e
    split at h
    · exact xi_s_pop2 hX' hmd hC hO hR hl hret rfl hd h
    · exact h.elim
  case ldc i =>
    rw [Bool.and_eq_true] at hE
    have e := Nat.eq_of_beq_eq_true hE.1
    subst e
    exact xi_s_ldc hX' hmd hC hO hR hl hret hd (xi_memT (of_decide_eq_true hE.2)) h
  case ldc_w i =>
    rw [Bool.and_eq_true] at hE
    have e := Nat.eq_of_beq_eq_true hE.1
    subst e
    exact xi_s_ldcw hX' hmd hC hO hR hl hret hd (xi_memT (of_decide_eq_true hE.2)) h
  case ldc2_w i =>
    rw [Bool.and_eq_true] at hE
    have e := Nat.eq_of_beq_eq_true hE.1
    subst e
    exact xi_s_ldc2 hX' hmd hC hO hR hl hret hd (xi_memT (of_decide_eq_true hE.2)) h
  case ifCond cc off =>
    rw [Bool.and_eq_true] at hE
    have e := Nat.eq_of_beq_eq_true hE.1
    subst e
    exact xi_s_ifCond hX' hmd hC hO hR hl hret hd hE.2 h
  case if_icmp cc off =>
    rw [Bool.and_eq_true] at hE
    have e := Nat.eq_of_beq_eq_true hE.1
    subst e
    exact xi_s_if_icmp hX' hmd hC hO hR hl hret hd hE.2 h
  case goto off =>
    rw [Bool.and_eq_true] at hE
    have e := Nat.eq_of_beq_eq_true hE.1
    subst e
    exact xi_s_goto hX' hmd hC hO hR hl hret hd hE.2 h
  case tableswitch d lo hi offs =>
    rw [Bool.and_eq_true, Bool.and_eq_true] at hE
    exact xi_s_tableswitch hX' hmd hC hO hR hl hret hd (Nat.eq_of_beq_eq_true hE.1.1) hE.1.2 hE.2 h
  case getfield i =>
    rw [Bool.and_eq_true] at hE
    have e := Nat.eq_of_beq_eq_true hE.1
    subst e
    split at h
    · split at h
      · rename_i ho
        have hb1 := (xi_b_of h).1
        replace h := (xi_b_of h).2
        have e2 := Nat.eq_of_beq_eq_true hb1
        subst e2
        replace hE := hE.2
        split at hE
        · rename_i qc qt qn hq
          rw [Bool.and_eq_true, decide_eq_true_eq] at hE
          exact xi_s_getfield (tf := tf) hX' hmd hC hO hR hl hret rfl hd ho hq (hgc _ _ hq) (Nat.blt_eq.mp hE.1) (xi_memT hE.2) h
        · cases hE
      · exact h.elim
    · exact h.elim
  case putfield i =>
    rw [Bool.and_eq_true] at hE
    have e := Nat.eq_of_beq_eq_true hE.1
    subst e
    split at h
    · rename_i v o t
      split at h
      · rename_i ci ho
        have hb1 := (xi_b_of h).1
        replace h := (xi_b_of h).2
        have e2 := Nat.eq_of_beq_eq_true hb1
        subst e2
        replace hE := hE.2
        split at hE
        · rename_i qc qt qn hq
          rw [Bool.and_eq_true, Bool.and_eq_true, decide_eq_true_eq] at hE
          have hj := Nat.blt_eq.mp hE.1.1
          have hkt := (hgc _ _ hq).2.2.2.2 rb hj
          have hoL := (List.getElem?_eq_some_iff.mp ho).1
          have hF := hR.2.2.2.2
          unfold xi_put at h
          split at h
          · rename_i x hk
            rw [hk] at hkt
            have hty : tf ci rb = .int := by rcases xi_fits hkt with ⟨_, z⟩ | ⟨z, _⟩ | ⟨z, _⟩ | ⟨z, _⟩ <;> first | exact z | cases z
            refine xi_s_putfield (tf := tf) (σ' := (σ.1, σ.2.1, xi_u σ.2.2.1 o rb x, σ.2.2.2)) hX' hmd hC hO hR hl hret rfl hd ho hq (hgc _ _ hq) hj (xi_memT hE.1.2) hE.2 (by rw [hty]; rfl) (by rw [hty]; rfl) rfl (fun k hk => rfl) (fun k hk => xi_une hk) (fun k hk => rfl) ?_ ?_ hF h
            · unfold xi_fld; rw [hk]; simp [xi_u]
            · intro k hk2; unfold xi_fld; simp [xi_u, hk2]
          · rename_i x hk
            rw [hk] at hkt
            have hty : tf ci rb = .boolean := by rcases xi_fits hkt with ⟨z, _⟩ | ⟨_, z⟩ | ⟨z, _⟩ | ⟨z, _⟩ <;> first | exact z | cases z
            refine xi_s_putfield (tf := tf) (σ' := (σ.1, σ.2.1, xi_u σ.2.2.1 o rb x, σ.2.2.2)) hX' hmd hC hO hR hl hret rfl hd ho hq (hgc _ _ hq) hj (xi_memT hE.1.2) hE.2 (by rw [hty]; exact (xi_bool h.1).1) (by rw [hty]; exact (xi_bool h.1).2) rfl (fun k hk => rfl) (fun k hk => xi_une hk) (fun k hk => rfl) ?_ ?_ hF h.2
            · unfold xi_fld; rw [hk]; simp [xi_u]
            · intro k hk2; unfold xi_fld; simp [xi_u, hk2]
          · rename_i x hk
            rw [hk] at hkt
            have hty : tf ci rb = .long := by rcases xi_fits hkt with ⟨z, _⟩ | ⟨z, _⟩ | ⟨_, z⟩ | ⟨z, _⟩ <;> first | exact z | cases z
            refine xi_s_putfield (tf := tf) (σ' := (σ.1, σ.2.1, σ.2.2.1, xi_u σ.2.2.2 o rb x)) hX' hmd hC hO hR hl hret rfl hd ho hq (hgc _ _ hq) hj (xi_memT hE.1.2) hE.2 (by rw [hty]; rfl) (by rw [hty]; rfl) rfl (fun k hk => rfl) (fun k hk => rfl) (fun k hk => xi_une hk) ?_ ?_ hF h
            · unfold xi_fld; rw [hk]; simp [xi_u]
            · intro k hk2; unfold xi_fld; simp [xi_u, hk2]
          · rename_i x hk
            rw [hk] at hkt
            have hx2 := (xi_b_of h).1
            replace h := (xi_b_of h).2
            have hty : (∃ n, tf ci rb = .object n) ∨ ∃ t, tf ci rb = .array t := by rcases xi_fits hkt with ⟨z, _⟩ | ⟨z, _⟩ | ⟨z, _⟩ | ⟨_, z⟩ <;> first | exact z | cases z
            refine xi_s_putfield (tf := tf) (σ' := (σ.1, xi_u σ.2.1 o rb (x + 1), σ.2.2.1, σ.2.2.2)) hX' hmd hC hO hR hl hret rfl hd ho hq (hgc _ _ hq) hj (xi_memT hE.1.2) hE.2 (by rcases hty with ⟨n, z⟩ | ⟨n, z⟩ <;> rw [z] <;> rfl) (by rcases hty with ⟨n, z⟩ | ⟨n, z⟩ <;> rw [z] <;> rfl) rfl (fun k hk => xi_une hk) (fun k hk => rfl) (fun k hk => rfl) ?_ ?_ ?_ h
            · unfold xi_fld; rw [hk]; simp [xi_u]
            · intro k hk2; unfold xi_fld; simp [xi_u, hk2]
            · refine ⟨fun k j q hk hq => ?_, hF.2⟩
              by_cases e1 : k = o
              · subst e1
                by_cases e2 : j = rb
                · subst e2
                  simp [xi_u] at hq
                  rw [← hq]
                  exact Nat.blt_eq.mp hx2
                · simp [xi_u, e2] at hq
                  exact hF.1 k j q hk hq
              · simp [xi_u, e1] at hq
                exact hF.1 k j q hk hq
          · exact h.elim
        · cases hE
      · exact h.elim
    · exact h.elim
  case getstatic i =>
    rw [Bool.and_eq_true] at hE
    have e := Nat.eq_of_beq_eq_true hE.1
    subst e
    replace hE := hE.2
    split at hE
    · cases hE
    · rename_i j
      split at hE
      · rename_i z hz
        exact xi_s_getstatic hX' hmd hC hO hR hl hret hd hz (xi_memT (of_decide_eq_true hE)) h
      · cases hE
  case iaload =>
    have e := Nat.eq_of_beq_eq_true hE
    simp only [xi_len] at e
    subst e
    split at h
    · rename_i j a t
      split at h
      · rename_i n ha
        exact xi_s_iaload hX' hmd hC hO hR hl hret rfl hd ha h.1 h.2
      · have hb1 := (xi_b_of h).1
        replace h := (xi_b_of h).2
        obtain ⟨j0, rfl⟩ : ∃ j0, a = xi_o + j0 := ⟨a - xi_o, (Nat.add_sub_cancel' (Nat.ble_eq.mp hb1)).symm⟩
        rw [Nat.add_sub_cancel_left] at h
        split at h
        · rename_i n f hq
          exact xi_s_aloadO hX' hmd hC hO hR hl hret rfl hd hq h.1 h.2
        · exact h.elim
      · exact h.elim
    · exact h.elim
  case laload =>
    have e := Nat.eq_of_beq_eq_true hE
    simp only [xi_len] at e
    subst e
    split at h
    · split at h
      · rename_i ha
        exact xi_s_laload hX' hmd hC hO hR hl hret rfl hd ha h.1 h.2
      · exact h.elim
    · exact h.elim
  case iastore =>
    have e := Nat.eq_of_beq_eq_true hE
    simp only [xi_len] at e
    subst e
    split at h
    · split at h
      · rename_i ha
        exact xi_s_iastore hX' hmd hC hO hR hl hret rfl hd ha h.1 h.2
      · exact h.elim
    · exact h.elim
  case lastore =>
    have e := Nat.eq_of_beq_eq_true hE
    simp only [xi_len] at e
    subst e
    split at h
    · split at h
      · rename_i ha
        exact xi_s_lastore hX' hmd hC hO hR hl hret rfl hd ha h.1 h.2
      · exact h.elim
    · exact h.elim
  case arraylength =>
    have e := Nat.eq_of_beq_eq_true hE
    simp only [xi_len] at e
    subst e
    split at h
    · rename_i a t
      split at h
      · rename_i n ha
        exact xi_s_alen1 hX' hmd hC hO hR hl hret rfl hd ha h
      · rename_i n ha
        exact xi_s_alen2 hX' hmd hC hO hR hl hret rfl hd ha h
      · have hb1 := (xi_b_of h).1
        replace h := (xi_b_of h).2
        obtain ⟨j0, rfl⟩ : ∃ j0, a = xi_o + j0 := ⟨a - xi_o, (Nat.add_sub_cancel' (Nat.ble_eq.mp hb1)).symm⟩
        rw [Nat.add_sub_cancel_left] at h
        split at h
        · rename_i n f hq
          exact xi_s_alenO hX' hmd hC hO hR hl hret rfl hd hq h
        · exact h.elim
      · exact h.elim
    · exact h.elim
  case newarray ty =>
    rw [Bool.and_eq_true] at hE
    have e := Nat.eq_of_beq_eq_true hE.1
    subst e
    split at h
    · obtain ⟨hc, hn, h⟩ := xi_b_of h
      simp only [Bool.and_eq_true, Nat.ble_eq, Nat.blt_eq] at hc
      obtain ⟨⟨⟨⟨⟨c1, c2⟩, c3⟩, c4⟩, c5⟩, c6⟩ := hc
      split at h
      · exact xi_s_newa1 hX' hmd hC hO hR hl hret rfl hd (of_decide_eq_true hE.2) hn c1 c2 c3 c4 c5 c6 h
      · exact xi_s_newa2 hX' hmd hC hO hR hl hret rfl hd (of_decide_eq_true hE.2) hn c1 c2 c3 c4 c5 c6 h
      · exact h.elim
    · exact h.elim
  case new i =>
    rw [Bool.and_eq_true] at hE
    have e := Nat.eq_of_beq_eq_true hE.1
    subst e
    have hc := (xi_b_of h).1
    replace h := (xi_b_of h).2
    simp only [Bool.and_eq_true, Nat.ble_eq, Nat.blt_eq] at hc
    obtain ⟨⟨⟨⟨c1, c2⟩, c4⟩, c5⟩, c6⟩ := hc
    replace hE := hE.2
    split at hE
    · rename_i qc qt qn hq
      rw [Bool.and_eq_true, Bool.and_eq_true, decide_eq_true_eq, decide_eq_true_eq, decide_eq_true_eq] at hE
      exact xi_s_new (tf := tf) hX' hmd hC hO hR hl hret hd hq (hgc _ _ hq) (xi_memT hE.1.1) hE.1.2 hE.2 c1 c2 c4 c5 c6 h
    · cases hE
  case invokestatic i =>
    rw [Bool.and_eq_true] at hE
    have e := Nat.eq_of_beq_eq_true hE.1
    subst e
    replace hE := hE.2
    cases hmn : G.1[ra]? with
    | none => rw [hmn] at h; exact h.elim
    | some mn =>
      rw [hmn] at h hE
      dsimp only at h hE
      rw [Bool.and_eq_true, decide_eq_true_eq, decide_eq_true_eq] at hE
      have hn := (xi_b_of h).1
      replace h := (xi_b_of h).2
      exact xi_s_static hX' hmd hC hO hR hl hret hgw hmn (hM _ _ hmn (by rw [hE.2]; decide)) hd hE.2 (xi_memT hE.1) (Nat.ble_eq.mp hn) h
  case invokevirtual i =>
    rw [Bool.and_eq_true] at hE
    have e := Nat.eq_of_beq_eq_true hE.1
    subst e
    replace hE := hE.2
    cases hmn : G.1[ra]? with
    | none => rw [hmn] at h; exact h.elim
    | some mn =>
      rw [hmn] at h hE
      dsimp only at h hE
      split at h
      · rename_i o t hdr
        split at h
        · rename_i ci ho
          have hb1 := (xi_b_of h).1
          replace h := (xi_b_of h).2
          have e2 := Nat.eq_of_beq_eq_true hb1
          subst e2
          cases hq : cl[ci]? with
          | none => rw [hq] at hE; cases hE
          | some q =>
            rw [hq] at hE
            obtain ⟨qc, qt, qn⟩ := q
            dsimp only at hE
            rw [Bool.and_eq_true, Bool.and_eq_true, decide_eq_true_eq, decide_eq_true_eq, decide_eq_true_eq] at hE
            exact xi_s_virtual hX' hmd hC hO hR hl hret hgw hmn (hM _ _ hmn (by rw [hE.1.2]; decide)) hd hE.1.2 (xi_memT hE.1.1) hdr ho hq hE.2 h
        · exact h.elim
      · exact h.elim
  case invokespecial i =>
    rw [Bool.and_eq_true] at hE
    have e := Nat.eq_of_beq_eq_true hE.1
    subst e
    replace hE := hE.2
    split at hE
    · cases hmn : G.1[ra]? with
      | none => rw [hmn] at hE; cases hE
      | some mn =>
        replace h : (match G.1[ra]? with
          | some mn => match st.drop mn.2.1.2.2 with
            | .ref o :: t => xi_call G X' md μ pc ls σ nc ns Q ra mn (.ref o :: (st.take mn.2.1.2.2).reverse) t
            | _ => False
          | none => False) := h
        rw [hmn] at h hE
        dsimp only at h hE
        rw [Bool.and_eq_true, decide_eq_true_eq, decide_eq_true_eq] at hE
        split at h
        · rename_i o t hdr
          exact xi_s_special hX' hmd hC hO hR hl hret hgw hmn (hM _ _ hmn (by rw [hE.1]; decide)) hd hE.1 (xi_memT hE.2) hdr h
        · exact h.elim
    · cases hmn : G.1[ra]? with
      | none => rw [hmn] at hE; cases hE
      | some mn =>
        replace h : (match G.1[ra]? with
          | some mn => match st.drop mn.2.1.2.2 with
            | .ref o :: t => xi_call G X' md μ pc ls σ nc ns Q ra mn (.ref o :: (st.take mn.2.1.2.2).reverse) t
            | _ => False
          | none => False) := h
        rw [hmn] at h hE
        dsimp only at h hE
        rw [Bool.and_eq_true, decide_eq_true_eq] at hE
        obtain ⟨hk, hE⟩ := hE
        split at h
        · rename_i o t hdr
          split at hE
          · rename_i o2 j y ho hw
            rw [Bool.and_eq_true, Bool.and_eq_true, decide_eq_true_eq, decide_eq_true_eq] at hE
            obtain ⟨⟨e1, e3⟩, e2⟩ := hE
            have e3 := Nat.eq_of_beq_eq_true e3
            have hnw := hO.2.2 _ (List.mem_of_getElem? hw)
            dsimp only at hnw
            rw [e1, e2, e3] at hnw
            exact xi_s_specialN hX' hmd hC hO hR hl hret hgw hmn (hM _ _ hmn (by rw [hk]; decide)) hd hk hnw hdr h
          · cases hE
        · exact h.elim
    · rw [Bool.and_eq_true, Bool.and_eq_true, decide_eq_true_eq, decide_eq_true_eq, decide_eq_true_eq] at hE
      replace h : (match (generalizing := false) st with
          | .ref _ :: t => xi_b (Nat.ble 1 md.2.2.1.1 && Nat.ble (xi_w8 t + 12) md.2.2.1.2.1) (X' μ (pc + 3) ls t σ nc ns Q)
          | _ => False) := h
      split at h
      · exact xi_s_objInit hX' hmd hC hO hR hl hret rfl hd (xi_memT hE.1.1) hE.1.2 hE.2 h
      · exact h.elim
    · cases hE
  case ireturn =>
    have e := Nat.eq_of_beq_eq_true hE
    simp only [xi_len] at e
    subst e
    split at h
    · rename_i v
      have hc := (xi_b_of h).1
      replace h := (xi_b_of h).2
      simp only [Bool.and_eq_true, Nat.ble_eq] at hc
      split at h
      · rename_i hr
        exact hret _ _ _ _ _ _ _ _ _ _ h hR xi_A_rf hc.1 hc.2 ⟨hd, Or.inl hr⟩
      · rename_i hr
        exact hret _ _ _ _ _ _ _ _ _ _ h.2 hR xi_A_rf hc.1 hc.2 ⟨hd, Or.inr ⟨hr, h.1⟩⟩
      · exact h.elim
    · exact h.elim
  case lreturn =>
    have e := Nat.eq_of_beq_eq_true hE
    simp only [xi_len] at e
    subst e
    split at h
    · rename_i v
      have hc := (xi_b_of h).1
      replace h := (xi_b_of h).2
      simp only [Bool.and_eq_true, Nat.ble_eq] at hc
      split at h
      · rename_i hr
        exact hret _ _ _ _ _ _ _ _ _ _ h hR xi_A_rf hc.1 hc.2 ⟨hd, hr⟩
      · exact h.elim
    · exact h.elim
  case return_ =>
    have e := Nat.eq_of_beq_eq_true hE
    simp only [xi_len] at e
    subst e
    split at h
    · have hc := (xi_b_of h).1
      replace h := (xi_b_of h).2
      simp only [Bool.and_eq_true, Nat.ble_eq] at hc
      split at h
      · rename_i hr
        exact hret _ _ _ _ _ _ _ _ _ _ h hR xi_A_rf hc.1 hc.2 ⟨hd, hr⟩
      · exact h.elim
    · exact h.elim
end XIS7
