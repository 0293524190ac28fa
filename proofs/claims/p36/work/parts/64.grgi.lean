/-! GREEDY's row is as CRITICAL wants it; the class's findBlock and the model's looks over it -/
section GRGI
variable {z : St} {o u b n : Nat} {c t q : Nat → Int}
theorem gr_GI (hB : BD n c t q) (hn : n ≤ 8) : ∀ k, k ≤ n → GI n t q (gr c t q n k)
  | 0, _ => ⟨fun i h => absurd h (Nat.not_lt_zero _), fun i _ h => absurd h (Nat.not_lt_zero _), Or.inl ⟨rfl, rfl⟩, fun i h => absurd h (Nat.not_lt_zero _)⟩
  | k + 1, hk => by
    obtain ⟨h1, h2, h3⟩ := gr_inv hB hn k (by omega)
    have g := gr_next hB (y := gr c t q n k) (by omega)
    exact GI_ap hB h1 (gr_GI hB hn k (by omega)) g.2.1 g.2.2.1
theorem kd0_in : ∀ o, o < KN → kd o = 0 → o = 37 ∨ o = 45 := by decide +kernel
theorem fdg_of (hb : kd b = 0) (ho : kd o = 3) (hu : kd u = 4) (hL : LD z u n c t q) (hB : BD n c t q) (hY : LY z o n (gr c t q n n)) (hn : 0 < n) : f_X0_find z b u o = some (fbR c t q n (gr c t q n n) (pl q (gr c t q n n) n).toNat (fdZ q n (gr c t q n n) z b) b (bkB q n (gr c t q n n))) ∧ 0 ≤ pl q (gr c t q n n) n := by
  have h8 := hL.2.1
  have k0 := kd0_in b (kd_lt hb (by decide)) hb
  have k3 := kd3_in o (kd_lt ho (by decide)) ho
  have k4 := kd4_in u (kd_lt hu (by decide)) hu
  obtain ⟨h1, h2, h3⟩ := gr_inv hB h8 n (Nat.le_refl _)
  exact fd_of (fun a ha => by have := own_rng (Or.inr hu) ha; omega) (fun a ha => by have := own_rng (Or.inl ho) ha; omega) hL hB hY h1 (gr_GI hB h8 n (Nat.le_refl _)) h3 hn
theorem lkg_of (hL : MD z n c t q) (hB : BD n c t q) (hM : MG z n (gr c t q n n)) (hn : 0 < n) : f_X11_looks z 68 (iv (gr c t q n n).2.2.2.2.2.2.1) = some (lkZ q n (gr c t q n n) z) := by
  have h8 := hL.2.1
  obtain ⟨h1, h2, h3⟩ := gr_inv hB h8 n (Nat.le_refl _)
  exact lk_of hL hB hM h1 (gr_GI hB h8 n (Nat.le_refl _)) h3 hn
end GRGI
