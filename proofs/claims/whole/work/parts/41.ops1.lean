/-! OPERATIONS that are acts -/
theorem o_book {N : Nat} (hN : 200 ≤ N) : zop_book N zInv := fun _ x h => act_sim hN (a_book x) h
theorem o_words {N : Nat} (hN : 200 ≤ N) : zop_words N zInv := fun _ k x h => act_sim hN (a_words k x) h
theorem o_lose {N : Nat} (hN : 200 ≤ N) : zop_lose N zInv := fun _ x h => act_sim hN (a_lose hN x) h
theorem o_ahead {N : Nat} (hN : 200 ≤ N) : zop_ahead N zInv := fun _ x y h => act_sim hN (a_ahead hN x y) h
theorem o_prior {N : Nat} (hN : 200 ≤ N) : zop_prior N zInv := fun _ x h => act_sim hN (a_prior x) h
theorem o_tell {N : Nat} (hN : 200 ≤ N) : zop_tell N zInv := fun _ x y h => act_sim hN (a_tell x y) h
theorem o_move {N : Nat} (hN : 200 ≤ N) : zop_move N zInv := fun _ x y h => act_sim hN (a_move hN x y) h
