/-! XI: the machine keeps each step -/
section XIS
variable {T : List Cond} {cl : List vw_C} {zs : xiZ} {tf : Nat → Nat → FieldType} {l : Launch} {G : xiG}
theorem xi_tgt_eq {pc : Nat} {off : Int} {tgt : Nat} (h : xi_tgt pc off = tgt) (hp : 0 ≤ (pc : Int) + off) : (pc : Int) + off = (tgt : Int) := by
  subst h
  unfold xi_tgt
  cases off with
  | ofNat k => simp
  | negSucc k => simp only; omega
theorem xi_sw_at {K : Nat → Prop} {pc : Nat} {x : Int32} : ∀ (offs : List Int) (k : Int), xi_sw K pc x k offs → ∀ (n : Nat) (off : Int), offs[n]? = some off → x.toInt = k + n → K (xi_tgt pc off)
  | [], _, _, n, off, h, _ => by cases h
  | o :: t, k, hs, n, off, h, hx => by
    cases n with
    | zero => cases h; exact hs.1 (by simpa using hx)
    | succ n => exact xi_sw_at t (k + 1) hs.2 n off h (by rw [hx]; simp; omega)
theorem xi_fits {k : Nat} {ty : FieldType} (h : xi_kt k ty = true) : (k = 0 ∧ ty = .int) ∨ (k = 1 ∧ ty = .boolean) ∨ (k = 2 ∧ ty = .long) ∨ (k = 3 ∧ ((∃ n, ty = .object n) ∨ ∃ t, ty = .array t)) := by
  unfold xi_kt at h
  split at h
  · exact Or.inl ⟨rfl, rfl⟩
  · exact Or.inr (Or.inl ⟨rfl, rfl⟩)
  · exact Or.inr (Or.inr (Or.inl ⟨rfl, rfl⟩))
  · exact Or.inr (Or.inr (Or.inr ⟨rfl, Or.inl ⟨_, rfl⟩⟩))
  · exact Or.inr (Or.inr (Or.inr ⟨rfl, Or.inr ⟨_, rfl⟩⟩))
  · cases h
theorem xi_bool {v : Int32} (h : v = 0 ∨ v = 1) : narrow .boolean (.int v) = .int v ∧ fits .boolean (.int v) = true := by
  rcases h with rfl | rfl <;> exact ⟨by decide, by decide⟩
theorem xi_getD {fk : List (List Nat)} {ad : Nat → Nat} {σ : xiS} {o ci j : Nat} (h : j < (fk.getD ci []).length) : ((List.range (fk.getD ci []).length).map (fun k => xi_v ad (xi_fld fk σ o ci k)))[j]? = some (xi_v ad (xi_fld fk σ o ci j)) := by
  rw [List.getElem?_map, List.getElem?_range h]
  rfl
theorem xi_K1 {D : va_G} {s : State} {cA : ClassId} {ty : FieldType} (h : ∀ (c : Nat) (q : vw_C), cl[c]? = some q → u_Kn s q.1 q.2.1 q.2.2 (D.1 c) (D.2 c)) (h2 : ArrOfT s cA ty ∧ va_RA s cA ty) : va_K D cl [(cA, ty)] s := by
  refine ⟨h, fun k q hq => ?_⟩
  cases k with
  | zero => cases hq; exact h2
  | succ k => cases hq
theorem xi_K0 {D : va_G} {s : State} (h : ∀ (c : Nat) (q : vw_C), cl[c]? = some q → u_Kn s q.1 q.2.1 q.2.2 (D.1 c) (D.2 c)) : va_K D cl [] s := ⟨h, fun k q hq => by cases hq⟩
theorem xi_upd {f : Nat → Nat → Int32} {a k : Nat} {x : Int32} : (xi_u f a k x) a = upd (f a) k x := by
  funext b
  simp [xi_u, upd]
theorem xi_updL {f : Nat → Nat → Int64} {a k : Nat} {x : Int64} : (xi_u f a k x) a = vp_updL (f a) k x := by
  funext b
  simp [xi_u, vp_updL]
theorem xi_une {α : Type} {f : Nat → Nat → α} {a b k : Nat} {x : α} (h : b ≠ a) : (xi_u f a k x) b = f b := by
  funext c
  simp [xi_u, h]
theorem xi_zne {α : Type} {f : Nat → Nat → α} {a b : Nat} {x : α} (h : b ≠ a) : (xi_z f a x) b = f b := by
  funext c
  simp [xi_z, h]
theorem xi_zeq {α : Type} {f : Nat → Nat → α} {a : Nat} {x : α} : (xi_z f a x) a = fun _ => x := by
  funext c
  simp [xi_z]
/-- the straight rows: no cell is touched -/
theorem xi_keep {X' : xiX} (hX' : ∀ μ pc ls st σ nc ns Q, X' μ pc ls st σ nc ns Q → xi_OK T cl zs l G μ pc ls st σ nc ns Q) {μ : Nat} {σ : xiS} {nc ns : Nat} {Q : xiQ} {md : xiM} (hmd : G.1[μ]? = some md) {p : Program} {e : Env} {s : State} {m : MethodId} {args : Array Value} {below : List Frame} {meth : Method} {c : Code} {R : Room} {Z : State → Prop} {D : va_G} {A : Nat → Prop} {ad : Nat → Nat} {ca : Nat → ClassId} {H : Heap} {locs : List Loc}
    (hC : xi_C T cl G D p s m args meth c R md A) (hO : xi_O zs G A ad s s.heap) (hR : xi_R cl G D s A ad ca σ H locs)
    (hret : ∀ (r : Option Value) (σ' : xiS) (ad' : Nat → Nat) (ca' : Nat → ClassId) (H' : Heap) (locs' : List Loc) (nc' ns' pc' : Nat) (lsA' : Array Slot), Q r σ' → xi_R cl G D s A ad' ca' σ' H' locs' → xi_A σ ad σ' ad' → nc' ≤ md.2.2.1.2.2.1 → ns' ≤ md.2.2.1.2.2.2 → xi_ret md pc' r →
      W p l e R s m args below meth c H' locs' nc' ns' Z (F0 m pc' lsA' (r.toList.map (xi_v ad'))))
    (pc : Nat) (ls : List (Option Value)) (st : List Value) (h : X' μ pc ls st σ nc ns Q) (lsA : Array Slot) (hl : lv_has lsA md.2.1.1 (xi_l ad ls)) : W p l e R s m args below meth c H locs nc ns Z (F0 m pc lsA (st.map (xi_v ad))) :=
  hX' μ pc ls st σ nc ns Q h md hmd p e s m args below meth c R Z D A ad ca H locs lsA hC hO hR hl hret
end XIS
