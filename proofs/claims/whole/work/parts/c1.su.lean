/-! the relation at the start; how much the arrays that grow may hold -/
theorem c_I0 {n k : Nat} (h1 : n ≠ 103) (h2 : n ≠ 300) : c_I n k = 0 := by
  unfold c_I
  rw [if_neg h1, if_neg (fun h => h2 h.1)]
theorem bx_z (x : Nat) : bx 0 x = false := by simp [bx]
theorem bi_y (x : Nat) : bi 0 x = false := by simp [bi]
theorem RR_0 : RR ((c_I, nJ0), c_N) c_K m_I := by
  refine ⟨⟨c_cN, ?_⟩, ⟨⟨fun _ _ _ => 0, fun _ => 0, ?_, ?_⟩, ⟨fun _ => (-1, 0, 0), ?_, ?_, ?_⟩, ⟨fun _ => (0, 0, 0, 0), 0, ⟨Nat.zero_le _, fun i hi => absurd hi (Nat.not_lt_zero i)⟩, ⟨rfl, fun i hi => absurd hi (Nat.not_lt_zero i)⟩, ⟨rfl, fun i hi => absurd hi (Nat.not_lt_zero i)⟩, false, rfl, rfl, fun h => by cases h⟩, ⟨fun _ => false, fun l _ => bi_y l, fun l _ => rfl⟩, ⟨fun _ => (0, 0, 0), 0, ⟨Nat.zero_le _, fun i hi => absurd hi (Nat.not_lt_zero i)⟩, ⟨rfl, fun i hi => absurd hi (Nat.not_lt_zero i)⟩, ⟨rfl, fun i hi => absurd hi (Nat.not_lt_zero i)⟩⟩, ⟨none, (fun t h => by cases h), ⟨rfl, rfl⟩, rfl⟩, ⟨false, rfl, rfl, fun h => by cases h⟩, fun k hk => rfl⟩, fun _ => false, [], false, 0, 0, fun _ => default, ⟨⟨false, rfl, rfl⟩, fun y x _ _ => bx_z x, fun p _ => rfl, ⟨rfl, Nat.zero_le _, fun i hi => absurd hi (Nat.not_lt_zero i)⟩, ⟨rfl, Nat.zero_le _, fun i hi => absurd hi (Nat.not_lt_zero i)⟩⟩, ⟨rfl, rfl, fun h => by cases h⟩, ⟨fun _ => (0, 0, 0, 0), 0, ⟨Nat.zero_le _, fun i hi => absurd hi (Nat.not_lt_zero i)⟩, ⟨rfl, fun i hi => absurd hi (Nat.not_lt_zero i)⟩, ⟨rfl, fun i hi => absurd hi (Nat.not_lt_zero i)⟩, ⟨0, rfl, rfl⟩, false, rfl, rfl, fun h => by cases h⟩⟩
  · show ∀ n ∈ cl_dy, c_N n ≤ cap n
    decide +kernel
  · intro c hc
    refine ⟨⟨Nat.zero_le _, c_I0 (by omega) (by omega), fun k hk => absurd hk (Nat.not_lt_zero k)⟩, Or.inl ?_, Or.inl (c_I0 (by omega) (by omega))⟩
    exact (show ∀ c, c < 8 → c_N (1000 + 100 * c + 2) = 0 ∧ c_N (1000 + 100 * c + 3) = 0 by decide +kernel) c hc
  · intro c hc
    exact ⟨Nat.zero_le _, rfl, fun k hk => absurd hk (Nat.not_lt_zero k)⟩
  · intro i hi
    exact ⟨by show (-1 : Int) ≤ -1; omega, by show (-1 : Int) ≤ 5; omega, by show 0 < 8 + i; omega, fun _ => Nat.zero_le _, fun _ => by show 0 < 8 + i; omega⟩
  · intro i hi
    refine ⟨?_, rfl, rfl⟩
    show rw_m 8 i = zI (-1)
    unfold rw_m
    rw [if_pos hi]
    rfl
  · intro i hi
    refine ⟨?_, rfl, rfl⟩
    show rw_m 16 (8 + i) = zI (-1)
    unfold rw_m
    rw [if_pos (by omega)]
    rfl
theorem pt_sum (N : Nat → Nat) : pt N = N 112 + (N 113 + (N 114 + (N 116 + (N 117 + (N 312 + (N 313 + (N 314 + (N 316 + (N 317 + (N 322 + (N 323 + (N 324 + (N 326 + (N 327 + (N 201 + (N 302 + (N 303 + (N 304 + (N 1002 + (N 1003 + (N 1102 + (N 1103 + (N 1202 + (N 1203 + (N 1302 + (N 1303 + (N 1402 + (N 1403 + (N 1502 + (N 1503 + (N 1602 + (N 1603 + (N 1702 + (N 1703 + 0)))))))))))))))))))))))))))))))))) := by
  unfold pt cl_dy
  simp only [List.map_cons, List.map_nil, List.sum_cons, List.sum_nil]
theorem pt_cls {S : ca} {K : Nat → Nat} {I : nm_I} (h : RA S K I) : ∀ c, c < 8 → S.2 (1000 + 100 * c + 2) + S.2 (1000 + 100 * c + 3) ≤ 712 := by
  obtain ⟨sd, cnt, hcl, -⟩ := h
  intro c hc
  have h9 := (hcl c hc).2.1
  rcases h9 with ⟨h1, h2⟩ | ⟨h1, h2⟩
  · omega
  · omega
theorem pt_le {N : Nat → Nat} (hcap : ∀ n ∈ cl_dy, N n ≤ cap n) (key : ∀ c, c < 8 → N (1000 + 100 * c + 2) + N (1000 + 100 * c + 3) ≤ 712) : pt N ≤ 284224 := by
  have h2 : ∀ {x y z r : Nat}, x + y ≤ 712 → z ≤ r → x + (y + z) ≤ 712 + r := fun {x y z r} h1 h3 => by
    rw [← Nat.add_assoc]
    exact Nat.add_le_add h1 h3
  have h1 : ∀ n, n ∈ cl_dy → n ≠ 316 → N n ≤ 8192 := fun n h9 h8 => by
    have h7 := hcap n h9
    unfold cap at h7
    rw [if_neg h8] at h7
    exact h7
  have h3 : N 316 ≤ 131072 := hcap 316 (by decide +kernel)
  rw [pt_sum]
  refine Nat.le_trans (Nat.add_le_add (h1 112 (by decide +kernel) (by decide)) (Nat.add_le_add (h1 113 (by decide +kernel) (by decide)) (Nat.add_le_add (h1 114 (by decide +kernel) (by decide)) (Nat.add_le_add (h1 116 (by decide +kernel) (by decide)) (Nat.add_le_add (h1 117 (by decide +kernel) (by decide)) (Nat.add_le_add (h1 312 (by decide +kernel) (by decide)) (Nat.add_le_add (h1 313 (by decide +kernel) (by decide)) (Nat.add_le_add (h1 314 (by decide +kernel) (by decide)) (Nat.add_le_add h3 (Nat.add_le_add (h1 317 (by decide +kernel) (by decide)) (Nat.add_le_add (h1 322 (by decide +kernel) (by decide)) (Nat.add_le_add (h1 323 (by decide +kernel) (by decide)) (Nat.add_le_add (h1 324 (by decide +kernel) (by decide)) (Nat.add_le_add (h1 326 (by decide +kernel) (by decide)) (Nat.add_le_add (h1 327 (by decide +kernel) (by decide)) (Nat.add_le_add (h1 201 (by decide +kernel) (by decide)) (Nat.add_le_add (h1 302 (by decide +kernel) (by decide)) (Nat.add_le_add (h1 303 (by decide +kernel) (by decide)) (Nat.add_le_add (h1 304 (by decide +kernel) (by decide)) (h2 (key 0 (by decide)) (h2 (key 1 (by decide)) (h2 (key 2 (by decide)) (h2 (key 3 (by decide)) (h2 (key 4 (by decide)) (h2 (key 5 (by decide)) (h2 (key 6 (by decide)) (h2 (key 7 (by decide)) (Nat.le_refl 0)))))))))))))))))))))))))))) ?_
  decide
theorem pt_RR {S : ca} {K : Nat → Nat} {I : nm_I} (h : RR S K I) : pt S.2 ≤ 284224 := pt_le h.1.2 (pt_cls h.2.1.1)
