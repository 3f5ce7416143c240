theorem iLX0 : ∀ k : Nat, k < 5 → u_lay RX0 TX0 k ∈ XT
  | 0, _ => xm 135 (by decide +kernel) (by decide +kernel)
  | 1, _ => xm 137 (by decide +kernel) (by decide +kernel)
  | 2, _ => xm 139 (by decide +kernel) (by decide +kernel)
  | 3, _ => xm 141 (by decide +kernel) (by decide +kernel)
  | 4, _ => xm 143 (by decide +kernel) (by decide +kernel)
  | k + 5, h => absurd h (by omega)
theorem iTX0 {c0 : Cond} : ∀ w ∈ u_ws RX0 TX0 5, w ∈ c0 :: XT := by
  intro w hw
  obtain ⟨k, hk, rfl⟩ := List.mem_map.mp hw
  exact List.mem_cons_of_mem _ (iLX0 k (List.mem_range.mp hk))
theorem iLX1 : ∀ k : Nat, k < 8 → u_lay RX1 TX1 k ∈ XT
  | 0, _ => xm 184 (by decide +kernel) (by decide +kernel)
  | 1, _ => xm 186 (by decide +kernel) (by decide +kernel)
  | 2, _ => xm 188 (by decide +kernel) (by decide +kernel)
  | 3, _ => xm 190 (by decide +kernel) (by decide +kernel)
  | 4, _ => xm 192 (by decide +kernel) (by decide +kernel)
  | 5, _ => xm 194 (by decide +kernel) (by decide +kernel)
  | 6, _ => xm 196 (by decide +kernel) (by decide +kernel)
  | 7, _ => xm 198 (by decide +kernel) (by decide +kernel)
  | k + 8, h => absurd h (by omega)
theorem iTX1 {c0 : Cond} : ∀ w ∈ u_ws RX1 TX1 8, w ∈ c0 :: XT := by
  intro w hw
  obtain ⟨k, hk, rfl⟩ := List.mem_map.mp hw
  exact List.mem_cons_of_mem _ (iLX1 k (List.mem_range.mp hk))
theorem iLX2 : ∀ k : Nat, k < 2 → u_lay RX2 TX2 k ∈ XT
  | 0, _ => xm 110 (by decide +kernel) (by decide +kernel)
  | 1, _ => xm 112 (by decide +kernel) (by decide +kernel)
  | k + 2, h => absurd h (by omega)
theorem iTX2 {c0 : Cond} : ∀ w ∈ u_ws RX2 TX2 2, w ∈ c0 :: XT := by
  intro w hw
  obtain ⟨k, hk, rfl⟩ := List.mem_map.mp hw
  exact List.mem_cons_of_mem _ (iLX2 k (List.mem_range.mp hk))
theorem iLX3 : ∀ k : Nat, k < 4 → u_lay RX3 TX3 k ∈ XT
  | 0, _ => xm 157 (by decide +kernel) (by decide +kernel)
  | 1, _ => xm 159 (by decide +kernel) (by decide +kernel)
  | 2, _ => xm 161 (by decide +kernel) (by decide +kernel)
  | 3, _ => xm 163 (by decide +kernel) (by decide +kernel)
  | k + 4, h => absurd h (by omega)
theorem iTX3 {c0 : Cond} : ∀ w ∈ u_ws RX3 TX3 4, w ∈ c0 :: XT := by
  intro w hw
  obtain ⟨k, hk, rfl⟩ := List.mem_map.mp hw
  exact List.mem_cons_of_mem _ (iLX3 k (List.mem_range.mp hk))
theorem iLX4 : ∀ k : Nat, k < 8 → u_lay RX4 TX4 k ∈ XT
  | 0, _ => xm 209 (by decide +kernel) (by decide +kernel)
  | 1, _ => xm 211 (by decide +kernel) (by decide +kernel)
  | 2, _ => xm 213 (by decide +kernel) (by decide +kernel)
  | 3, _ => xm 215 (by decide +kernel) (by decide +kernel)
  | 4, _ => xm 217 (by decide +kernel) (by decide +kernel)
  | 5, _ => xm 219 (by decide +kernel) (by decide +kernel)
  | 6, _ => xm 221 (by decide +kernel) (by decide +kernel)
  | 7, _ => xm 223 (by decide +kernel) (by decide +kernel)
  | k + 8, h => absurd h (by omega)
theorem iTX4 {c0 : Cond} : ∀ w ∈ u_ws RX4 TX4 8, w ∈ c0 :: XT := by
  intro w hw
  obtain ⟨k, hk, rfl⟩ := List.mem_map.mp hw
  exact List.mem_cons_of_mem _ (iLX4 k (List.mem_range.mp hk))
theorem iLX5 : ∀ k : Nat, k < 33 → u_lay RX5 TX5 k ∈ XT
  | 0, _ => xm 672 (by decide +kernel) (by decide +kernel)
  | 1, _ => xm 674 (by decide +kernel) (by decide +kernel)
  | 2, _ => xm 676 (by decide +kernel) (by decide +kernel)
  | 3, _ => xm 678 (by decide +kernel) (by decide +kernel)
  | 4, _ => xm 680 (by decide +kernel) (by decide +kernel)
  | 5, _ => xm 682 (by decide +kernel) (by decide +kernel)
  | 6, _ => xm 684 (by decide +kernel) (by decide +kernel)
  | 7, _ => xm 686 (by decide +kernel) (by decide +kernel)
  | 8, _ => xm 688 (by decide +kernel) (by decide +kernel)
  | 9, _ => xm 690 (by decide +kernel) (by decide +kernel)
  | 10, _ => xm 692 (by decide +kernel) (by decide +kernel)
  | 11, _ => xm 694 (by decide +kernel) (by decide +kernel)
  | 12, _ => xm 696 (by decide +kernel) (by decide +kernel)
  | 13, _ => xm 698 (by decide +kernel) (by decide +kernel)
  | 14, _ => xm 700 (by decide +kernel) (by decide +kernel)
  | 15, _ => xm 702 (by decide +kernel) (by decide +kernel)
  | 16, _ => xm 704 (by decide +kernel) (by decide +kernel)
  | 17, _ => xm 706 (by decide +kernel) (by decide +kernel)
  | 18, _ => xm 708 (by decide +kernel) (by decide +kernel)
  | 19, _ => xm 710 (by decide +kernel) (by decide +kernel)
  | 20, _ => xm 712 (by decide +kernel) (by decide +kernel)
  | 21, _ => xm 714 (by decide +kernel) (by decide +kernel)
  | 22, _ => xm 716 (by decide +kernel) (by decide +kernel)
  | 23, _ => xm 718 (by decide +kernel) (by decide +kernel)
  | 24, _ => xm 720 (by decide +kernel) (by decide +kernel)
  | 25, _ => xm 722 (by decide +kernel) (by decide +kernel)
  | 26, _ => xm 724 (by decide +kernel) (by decide +kernel)
  | 27, _ => xm 726 (by decide +kernel) (by decide +kernel)
  | 28, _ => xm 728 (by decide +kernel) (by decide +kernel)
  | 29, _ => xm 730 (by decide +kernel) (by decide +kernel)
  | 30, _ => xm 732 (by decide +kernel) (by decide +kernel)
  | 31, _ => xm 734 (by decide +kernel) (by decide +kernel)
  | 32, _ => xm 736 (by decide +kernel) (by decide +kernel)
  | k + 33, h => absurd h (by omega)
theorem iTX5 {c0 : Cond} : ∀ w ∈ u_ws RX5 TX5 33, w ∈ c0 :: XT := by
  intro w hw
  obtain ⟨k, hk, rfl⟩ := List.mem_map.mp hw
  exact List.mem_cons_of_mem _ (iLX5 k (List.mem_range.mp hk))

