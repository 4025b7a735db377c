/-! the law's loop -/
theorem x_vp {L0 j k : Nat} (h : j + k < L0) (hL : L0 ≤ 2560) : vp_in (nI j + nI k) L0 := by
  rw [nI_add]
  exact pk_in (j + k) L0 h
theorem x_loop {L0 : Nat} {xs : Nat → Int32} (hL : L0 ≤ 2560) : ∀ (n j : Nat) (I : Nat → Nat → Int32) (L : Nat → Nat → Int64) (D : xD) (sl : xL) (x y : Int), L0 ≤ j + 5 * n → j ≤ 3000 → kR I L D sl x y → mR I L D sl x y →
    xi_V (xG L0 xs) 173 18 [some (Value.ref 1000000), some (Value.ref 0), some (Value.ref 37), some (Value.int (nI j))] [] (xSH, xRF, I, L) 53 49788 (fun r _ => r = some (.int 1))
  | 0, j, I, L, D, sl, x, y, hn, hj, hk, hm => by
    refine b_Law_law_18 ⟨fun _ => ⟨Or.inr rfl, rfl⟩, fun c => absurd ?_ c⟩
    rw [show Int32.ofNat L0 = zI (L0 : Int) from rfl, show (5 : Int32) = zI 5 from rfl, zI_sub, zI_n, zI_lt (by omega) (by omega) (by omega) (by omega)]
    omega
  | n + 1, j, I, L, D, sl, x, y, hn, hj, hk, hm => by
    refine b_Law_law_18 ⟨fun _ => ⟨Or.inr rfl, rfl⟩, fun c => ?_⟩
    rw [show Int32.ofNat L0 = zI (L0 : Int) from rfl, show (5 : Int32) = zI 5 from rfl, zI_sub, zI_n, zI_lt (by omega) (by omega) (by omega) (by omega)] at c
    have go : goN L0 xs (fun r _ => r = some (.int 1)) (nI j) := by
      intro I' L' D' sl' x' y' k m
      rw [show (5 : Int32) = nI 5 from rfl, nI_add]
      exact x_loop hL n (j + 5) I' L' D' sl' x' y' (by omega) (by omega) k m
    have a0 : vp_in (nI j) L0 := pk_in j L0 (by omega)
    have a1 : vp_in (nI j + (1 : Int32)) L0 := x_vp (k := 1) (by omega) hL
    have a2 : vp_in (nI j + (2 : Int32)) L0 := x_vp (k := 2) (by omega) hL
    have a3 : vp_in (nI j + (3 : Int32)) L0 := x_vp (k := 3) (by omega) hL
    have a4 : vp_in (nI j + (4 : Int32)) L0 := x_vp (k := 4) (by omega) hL
    refine ⟨a0, fun _ => go _ _ _ _ _ _ hk hm, fun _ => ⟨a1, a2, a3, l_row hk hm go a1 a2 a3 rfl rfl rfl⟩, fun _ => ⟨a1, l_tear hk hm go a1 rfl⟩, fun _ => ⟨a1, a2, a3, a4, l_write hk hm go a1 a2 a3 a4 rfl rfl rfl⟩, fun _ => ⟨a1, l_crowd hk hm go a1 rfl⟩, fun _ => ⟨a1, a2, l_drawn hk hm go a1 a2 rfl rfl⟩, fun _ => ⟨a1, a2, l_draw hk hm go a1 a2 rfl rfl⟩, fun _ => ⟨a1, l_chance hk hm go a1 rfl⟩, fun _ => ⟨a1, a2, l_both hk hm go a1 a2 rfl rfl⟩, fun _ => ⟨a1, l_set hk hm go a1 rfl⟩, fun _ => l_sets hk hm go, fun _ => l_many hk hm go, fun _ => ⟨a1, l_sumc hk hm go a1 rfl⟩, fun _ => l_mean hk hm go, fun _ => l_spread hk hm go, fun _ => ⟨a1, l_heap hk hm go a1 rfl⟩, fun _ => ⟨a1, a2, l_share hk hm go a1 a2 rfl rfl⟩, fun _ => ⟨a1, l_least hk hm go a1 rfl⟩, fun _ => ⟨a1, l_bands hk hm go a1 rfl⟩, fun _ => ⟨a1, a2, l_band hk hm go a1 a2 rfl rfl⟩, fun _ => ⟨a1, l_look hk hm go a1 rfl⟩, fun _ => ⟨a1, fun z => l_part hk hm go a1 a2 rfl (Or.inl ⟨z, rfl⟩), fun z => l_part hk hm go a1 a2 rfl (Or.inr ⟨z, rfl⟩)⟩, fun _ => ⟨a1, l_count hk hm go a1 rfl⟩, trivial⟩
/-- the law, from its entry -/
theorem x_law (L0 : Nat) (xs : Nat → Int32) (hL : L0 ≤ 2560) : xi_V (xG L0 xs) 173 0 [some (.ref 1000000), none, none, none] [] ([], fun _ _ => 0, fun _ _ => 0, fun _ _ => 0) 0 0 (fun r _ => r = some (.int 1)) :=
  y_start (fun I L k m => x_loop hL L0 0 I L y0 ySl 0 1 (by omega) (by decide) k m)
