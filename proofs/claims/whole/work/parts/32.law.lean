def EQ0 {R : Type} (Inv : Nat → St → Prop) (f g : St → Option (R × St)) : Prop := ∀ (n : Nat) (S : St), Inv n S → n < 512 → ∃ (r : R) (S1 S2 : St), f S = some (r, S1) ∧ g S1 = some (r, S2) ∧ Inv (n + 1) S2
def EQ1 {R : Type} (Inv : Nat → St → Prop) (f g : Int32 → St → Option (R × St)) : Prop := ∀ (n : Nat) (S : St) (a1 : Int32), Inv n S → n < 512 → ∃ (r : R) (S1 S2 : St), f a1 S = some (r, S1) ∧ g a1 S1 = some (r, S2) ∧ Inv (n + 1) S2
def EQ2 {R : Type} (Inv : Nat → St → Prop) (f g : Int32 → Int32 → St → Option (R × St)) : Prop := ∀ (n : Nat) (S : St) (a1 a2 : Int32), Inv n S → n < 512 → ∃ (r : R) (S1 S2 : St), f a1 a2 S = some (r, S1) ∧ g a1 a2 S1 = some (r, S2) ∧ Inv (n + 1) S2
def EQ3 {R : Type} (Inv : Nat → St → Prop) (f g : Int32 → Int32 → Int32 → St → Option (R × St)) : Prop := ∀ (n : Nat) (S : St) (a1 a2 a3 : Int32), Inv n S → n < 512 → ∃ (r : R) (S1 S2 : St), f a1 a2 a3 S = some (r, S1) ∧ g a1 a2 a3 S1 = some (r, S2) ∧ Inv (n + 1) S2
def EQ5 {R : Type} (Inv : Nat → St → Prop) (f g : Int32 → Int32 → Int32 → Int32 → Int32 → St → Option (R × St)) : Prop := ∀ (n : Nat) (S : St) (a1 a2 a3 a4 a5 : Int32), Inv n S → n < 512 → ∃ (r : R) (S1 S2 : St), f a1 a2 a3 a4 a5 S = some (r, S1) ∧ g a1 a2 a3 a4 a5 S1 = some (r, S2) ∧ Inv (n + 1) S2
theorem lc_0 {L : Nat} {xs : Nat → Int32} {Inv : Nat → St → Prop} (hE : EQ2 Inv fX4_grass fX5_grass) {n : Nat} {S : St} (hi : Inv n S) (hn : n < 512) (hL : 6 * n + 6 ≤ L) (hk : ∀ S2, Inv (n + 1) S2 → LW L xs 1433 [some (.ref 400), some (.ref 0), some (.ref 41), some (.int (nI (6 * n)))] [] S2) : LW L xs 216 [some (.ref 400), some (.ref 0), some (.ref 41), some (.int (nI (6 * n)))] [] S := by
  obtain ⟨r, S1, S2, hx, hm, hI⟩ := hE n S (xs (6 * n + 1)) (xs (6 * n + 2)) hi hn
  refine l_aload_n (g := 0) (k := 22) (i := 1) rfl rfl rfl ?_
  refine l_aload_n (g := 0) (k := 23) (i := 0) rfl rfl rfl ?_
  refine l_iload_n (g := 0) (k := 24) (i := 3) rfl rfl rfl ?_
  refine l_iconst (g := 0) (k := 25) 1 rfl (by decide) ?_
  refine l_iadd (g := 0) (k := 26) rfl ?_
  refine l_sld (g := 0) (k := 27) (j := 6 * n + 1) rfl (nI_add (6 * n) 1) (by omega) ?_
  refine l_aload_n (g := 0) (k := 28) (i := 0) rfl rfl rfl ?_
  refine l_iload_n (g := 0) (k := 29) (i := 3) rfl rfl rfl ?_
  refine l_iconst (g := 0) (k := 30) 2 rfl (by decide) ?_
  refine l_iadd (g := 0) (k := 31) rfl ?_
  refine l_sld (g := 0) (k := 32) (j := 6 * n + 2) rfl (nI_add (6 * n) 2) (by omega) ?_
  refine l_callV (g := 0) (k := 33) [.int (xs (6 * n + 1)), .int (xs (6 * n + 2))] [] rfl (tX4_grass hx) lay_X4 rfl lc_X4_grass ml_RL_13 mi_X4_grass mv_X4_grass (by decide) (by decide) (Nat.le_of_ble_eq_true rfl) rfl ?_
  refine l_aload_n (g := 0) (k := 34) (i := 2) rfl rfl rfl ?_
  refine l_aload_n (g := 0) (k := 35) (i := 0) rfl rfl rfl ?_
  refine l_iload_n (g := 0) (k := 36) (i := 3) rfl rfl rfl ?_
  refine l_iconst (g := 0) (k := 37) 1 rfl (by decide) ?_
  refine l_iadd (g := 0) (k := 38) rfl ?_
  refine l_sld (g := 0) (k := 39) (j := 6 * n + 1) rfl (nI_add (6 * n) 1) (by omega) ?_
  refine l_aload_n (g := 0) (k := 40) (i := 0) rfl rfl rfl ?_
  refine l_iload_n (g := 0) (k := 41) (i := 3) rfl rfl rfl ?_
  refine l_iconst (g := 0) (k := 42) 2 rfl (by decide) ?_
  refine l_iadd (g := 0) (k := 43) rfl ?_
  refine l_sld (g := 0) (k := 44) (j := 6 * n + 2) rfl (nI_add (6 * n) 2) (by omega) ?_
  refine l_callV (g := 0) (k := 45) [.int (xs (6 * n + 1)), .int (xs (6 * n + 2))] [.int r] rfl (tX5_grass hm) lay_X5 rfl lc_X5_grass ml_RL_17 mi_X5_grass mv_X5_grass (by decide) (by decide) (Nat.le_of_ble_eq_true rfl) rfl ?_
  refine l_icmp_eq (g := 0) (k := 46) 1433 rfl (by decide) rfl ?_
  exact hk S2 hI
theorem lc_1 {L : Nat} {xs : Nat → Int32} {Inv : Nat → St → Prop} (hE : EQ2 Inv fX4_ledge fX5_ledge) {n : Nat} {S : St} (hi : Inv n S) (hn : n < 512) (hL : 6 * n + 6 ≤ L) (hk : ∀ S2, Inv (n + 1) S2 → LW L xs 1433 [some (.ref 400), some (.ref 0), some (.ref 41), some (.int (nI (6 * n)))] [] S2) : LW L xs 249 [some (.ref 400), some (.ref 0), some (.ref 41), some (.int (nI (6 * n)))] [] S := by
  obtain ⟨r, S1, S2, hx, hm, hI⟩ := hE n S (xs (6 * n + 1)) (xs (6 * n + 2)) hi hn
  refine l_aload_n (g := 0) (k := 49) (i := 1) rfl rfl rfl ?_
  refine l_aload_n (g := 0) (k := 50) (i := 0) rfl rfl rfl ?_
  refine l_iload_n (g := 0) (k := 51) (i := 3) rfl rfl rfl ?_
  refine l_iconst (g := 0) (k := 52) 1 rfl (by decide) ?_
  refine l_iadd (g := 0) (k := 53) rfl ?_
  refine l_sld (g := 0) (k := 54) (j := 6 * n + 1) rfl (nI_add (6 * n) 1) (by omega) ?_
  refine l_aload_n (g := 0) (k := 55) (i := 0) rfl rfl rfl ?_
  refine l_iload_n (g := 0) (k := 56) (i := 3) rfl rfl rfl ?_
  refine l_iconst (g := 0) (k := 57) 2 rfl (by decide) ?_
  refine l_iadd (g := 0) (k := 58) rfl ?_
  refine l_sld (g := 0) (k := 59) (j := 6 * n + 2) rfl (nI_add (6 * n) 2) (by omega) ?_
  refine l_callV (g := 0) (k := 60) [.int (xs (6 * n + 1)), .int (xs (6 * n + 2))] [] rfl (tX4_ledge hx) lay_X4 rfl lc_X4_ledge ml_RL_18 mi_X4_ledge mv_X4_ledge (by decide) (by decide) (Nat.le_of_ble_eq_true rfl) rfl ?_
  refine l_aload_n (g := 0) (k := 61) (i := 2) rfl rfl rfl ?_
  refine l_aload_n (g := 0) (k := 62) (i := 0) rfl rfl rfl ?_
  refine l_iload_n (g := 0) (k := 63) (i := 3) rfl rfl rfl ?_
  refine l_iconst (g := 0) (k := 64) 1 rfl (by decide) ?_
  refine l_iadd (g := 0) (k := 65) rfl ?_
  refine l_sld (g := 0) (k := 66) (j := 6 * n + 1) rfl (nI_add (6 * n) 1) (by omega) ?_
  refine l_aload_n (g := 0) (k := 67) (i := 0) rfl rfl rfl ?_
  refine l_iload_n (g := 0) (k := 68) (i := 3) rfl rfl rfl ?_
  refine l_iconst (g := 0) (k := 69) 2 rfl (by decide) ?_
  refine l_iadd (g := 0) (k := 70) rfl ?_
  refine l_sld (g := 0) (k := 71) (j := 6 * n + 2) rfl (nI_add (6 * n) 2) (by omega) ?_
  refine l_callV (g := 0) (k := 72) [.int (xs (6 * n + 1)), .int (xs (6 * n + 2))] [.int r] rfl (tX5_ledge hm) lay_X5 rfl lc_X5_ledge ml_RL_21 mi_X5_ledge mv_X5_ledge (by decide) (by decide) (Nat.le_of_ble_eq_true rfl) rfl ?_
  refine l_icmp_eq (g := 0) (k := 73) 1433 rfl (by decide) rfl ?_
  exact hk S2 hI
theorem lc_2 {L : Nat} {xs : Nat → Int32} {Inv : Nat → St → Prop} (hE : EQ2 Inv fX4_set fX5_set) {n : Nat} {S : St} (hi : Inv n S) (hn : n < 512) (hL : 6 * n + 6 ≤ L) (hk : ∀ S2, Inv (n + 1) S2 → LW L xs 1433 [some (.ref 400), some (.ref 0), some (.ref 41), some (.int (nI (6 * n)))] [] S2) : LW L xs 282 [some (.ref 400), some (.ref 0), some (.ref 41), some (.int (nI (6 * n)))] [] S := by
  obtain ⟨r, S1, S2, hx, hm, hI⟩ := hE n S (xs (6 * n + 1)) (xs (6 * n + 2)) hi hn
  refine l_aload_n (g := 0) (k := 76) (i := 1) rfl rfl rfl ?_
  refine l_aload_n (g := 0) (k := 77) (i := 0) rfl rfl rfl ?_
  refine l_iload_n (g := 0) (k := 78) (i := 3) rfl rfl rfl ?_
  refine l_iconst (g := 0) (k := 79) 1 rfl (by decide) ?_
  refine l_iadd (g := 0) (k := 80) rfl ?_
  refine l_sld (g := 0) (k := 81) (j := 6 * n + 1) rfl (nI_add (6 * n) 1) (by omega) ?_
  refine l_aload_n (g := 0) (k := 82) (i := 0) rfl rfl rfl ?_
  refine l_iload_n (g := 0) (k := 83) (i := 3) rfl rfl rfl ?_
  refine l_iconst (g := 0) (k := 84) 2 rfl (by decide) ?_
  refine l_iadd (g := 0) (k := 85) rfl ?_
  refine l_sld (g := 0) (k := 86) (j := 6 * n + 2) rfl (nI_add (6 * n) 2) (by omega) ?_
  refine l_callV (g := 0) (k := 87) [.int (xs (6 * n + 1)), .int (xs (6 * n + 2))] [] rfl (tX4_set hx) lay_X4 rfl lc_X4_set ml_RL_22 mi_X4_set mv_X4_set (by decide) (by decide) (Nat.le_of_ble_eq_true rfl) rfl ?_
  refine l_aload_n (g := 0) (k := 88) (i := 2) rfl rfl rfl ?_
  refine l_aload_n (g := 0) (k := 89) (i := 0) rfl rfl rfl ?_
  refine l_iload_n (g := 0) (k := 90) (i := 3) rfl rfl rfl ?_
  refine l_iconst (g := 0) (k := 91) 1 rfl (by decide) ?_
  refine l_iadd (g := 0) (k := 92) rfl ?_
  refine l_sld (g := 0) (k := 93) (j := 6 * n + 1) rfl (nI_add (6 * n) 1) (by omega) ?_
  refine l_aload_n (g := 0) (k := 94) (i := 0) rfl rfl rfl ?_
  refine l_iload_n (g := 0) (k := 95) (i := 3) rfl rfl rfl ?_
  refine l_iconst (g := 0) (k := 96) 2 rfl (by decide) ?_
  refine l_iadd (g := 0) (k := 97) rfl ?_
  refine l_sld (g := 0) (k := 98) (j := 6 * n + 2) rfl (nI_add (6 * n) 2) (by omega) ?_
  refine l_callV (g := 0) (k := 99) [.int (xs (6 * n + 1)), .int (xs (6 * n + 2))] [.int r] rfl (tX5_set hm) lay_X5 rfl lc_X5_set ml_RL_25 mi_X5_set mv_X5_set (by decide) (by decide) (Nat.le_of_ble_eq_true rfl) rfl ?_
  refine l_icmp_eq (g := 1) (k := 0) 1433 rfl (by decide) rfl ?_
  exact hk S2 hI
theorem lc_3 {L : Nat} {xs : Nat → Int32} {Inv : Nat → St → Prop} (hE : EQ2 Inv fX4_goat fX5_goat) {n : Nat} {S : St} (hi : Inv n S) (hn : n < 512) (hL : 6 * n + 6 ≤ L) (hk : ∀ S2, Inv (n + 1) S2 → LW L xs 1433 [some (.ref 400), some (.ref 0), some (.ref 41), some (.int (nI (6 * n)))] [] S2) : LW L xs 315 [some (.ref 400), some (.ref 0), some (.ref 41), some (.int (nI (6 * n)))] [] S := by
  obtain ⟨r, S1, S2, hx, hm, hI⟩ := hE n S (xs (6 * n + 1)) (xs (6 * n + 2)) hi hn
  refine l_aload_n (g := 1) (k := 3) (i := 1) rfl rfl rfl ?_
  refine l_aload_n (g := 1) (k := 4) (i := 0) rfl rfl rfl ?_
  refine l_iload_n (g := 1) (k := 5) (i := 3) rfl rfl rfl ?_
  refine l_iconst (g := 1) (k := 6) 1 rfl (by decide) ?_
  refine l_iadd (g := 1) (k := 7) rfl ?_
  refine l_sld (g := 1) (k := 8) (j := 6 * n + 1) rfl (nI_add (6 * n) 1) (by omega) ?_
  refine l_aload_n (g := 1) (k := 9) (i := 0) rfl rfl rfl ?_
  refine l_iload_n (g := 1) (k := 10) (i := 3) rfl rfl rfl ?_
  refine l_iconst (g := 1) (k := 11) 2 rfl (by decide) ?_
  refine l_iadd (g := 1) (k := 12) rfl ?_
  refine l_sld (g := 1) (k := 13) (j := 6 * n + 2) rfl (nI_add (6 * n) 2) (by omega) ?_
  refine l_callV (g := 1) (k := 14) [.int (xs (6 * n + 1)), .int (xs (6 * n + 2))] [] rfl (tX4_goat hx) lay_X4 rfl lc_X4_goat ml_RL_26 mi_X4_goat mv_X4_goat (by decide) (by decide) (Nat.le_of_ble_eq_true rfl) rfl ?_
  refine l_aload_n (g := 1) (k := 15) (i := 2) rfl rfl rfl ?_
  refine l_aload_n (g := 1) (k := 16) (i := 0) rfl rfl rfl ?_
  refine l_iload_n (g := 1) (k := 17) (i := 3) rfl rfl rfl ?_
  refine l_iconst (g := 1) (k := 18) 1 rfl (by decide) ?_
  refine l_iadd (g := 1) (k := 19) rfl ?_
  refine l_sld (g := 1) (k := 20) (j := 6 * n + 1) rfl (nI_add (6 * n) 1) (by omega) ?_
  refine l_aload_n (g := 1) (k := 21) (i := 0) rfl rfl rfl ?_
  refine l_iload_n (g := 1) (k := 22) (i := 3) rfl rfl rfl ?_
  refine l_iconst (g := 1) (k := 23) 2 rfl (by decide) ?_
  refine l_iadd (g := 1) (k := 24) rfl ?_
  refine l_sld (g := 1) (k := 25) (j := 6 * n + 2) rfl (nI_add (6 * n) 2) (by omega) ?_
  refine l_callV (g := 1) (k := 26) [.int (xs (6 * n + 1)), .int (xs (6 * n + 2))] [.int r] rfl (tX5_goat hm) lay_X5 rfl lc_X5_goat ml_RL_29 mi_X5_goat mv_X5_goat (by decide) (by decide) (Nat.le_of_ble_eq_true rfl) rfl ?_
  refine l_icmp_eq (g := 1) (k := 27) 1433 rfl (by decide) rfl ?_
  exact hk S2 hI
theorem lc_4 {L : Nat} {xs : Nat → Int32} {Inv : Nat → St → Prop} (hE : EQ2 Inv fX4_of fX5_of) {n : Nat} {S : St} (hi : Inv n S) (hn : n < 512) (hL : 6 * n + 6 ≤ L) (hk : ∀ S2, Inv (n + 1) S2 → LW L xs 1433 [some (.ref 400), some (.ref 0), some (.ref 41), some (.int (nI (6 * n)))] [] S2) : LW L xs 348 [some (.ref 400), some (.ref 0), some (.ref 41), some (.int (nI (6 * n)))] [] S := by
  obtain ⟨r, S1, S2, hx, hm, hI⟩ := hE n S (xs (6 * n + 1)) (xs (6 * n + 2)) hi hn
  refine l_aload_n (g := 1) (k := 30) (i := 1) rfl rfl rfl ?_
  refine l_aload_n (g := 1) (k := 31) (i := 0) rfl rfl rfl ?_
  refine l_iload_n (g := 1) (k := 32) (i := 3) rfl rfl rfl ?_
  refine l_iconst (g := 1) (k := 33) 1 rfl (by decide) ?_
  refine l_iadd (g := 1) (k := 34) rfl ?_
  refine l_sld (g := 1) (k := 35) (j := 6 * n + 1) rfl (nI_add (6 * n) 1) (by omega) ?_
  refine l_aload_n (g := 1) (k := 36) (i := 0) rfl rfl rfl ?_
  refine l_iload_n (g := 1) (k := 37) (i := 3) rfl rfl rfl ?_
  refine l_iconst (g := 1) (k := 38) 2 rfl (by decide) ?_
  refine l_iadd (g := 1) (k := 39) rfl ?_
  refine l_sld (g := 1) (k := 40) (j := 6 * n + 2) rfl (nI_add (6 * n) 2) (by omega) ?_
  refine l_callV (g := 1) (k := 41) [.int (xs (6 * n + 1)), .int (xs (6 * n + 2))] [] rfl (tX4_of hx) lay_X4 rfl lc_X4_of ml_RL_30 mi_X4_of mv_X4_of (by decide) (by decide) (Nat.le_of_ble_eq_true rfl) rfl ?_
  refine l_aload_n (g := 1) (k := 42) (i := 2) rfl rfl rfl ?_
  refine l_aload_n (g := 1) (k := 43) (i := 0) rfl rfl rfl ?_
  refine l_iload_n (g := 1) (k := 44) (i := 3) rfl rfl rfl ?_
  refine l_iconst (g := 1) (k := 45) 1 rfl (by decide) ?_
  refine l_iadd (g := 1) (k := 46) rfl ?_
  refine l_sld (g := 1) (k := 47) (j := 6 * n + 1) rfl (nI_add (6 * n) 1) (by omega) ?_
  refine l_aload_n (g := 1) (k := 48) (i := 0) rfl rfl rfl ?_
  refine l_iload_n (g := 1) (k := 49) (i := 3) rfl rfl rfl ?_
  refine l_iconst (g := 1) (k := 50) 2 rfl (by decide) ?_
  refine l_iadd (g := 1) (k := 51) rfl ?_
  refine l_sld (g := 1) (k := 52) (j := 6 * n + 2) rfl (nI_add (6 * n) 2) (by omega) ?_
  refine l_callV (g := 1) (k := 53) [.int (xs (6 * n + 1)), .int (xs (6 * n + 2))] [.int r] rfl (tX5_of hm) lay_X5 rfl lc_X5_of ml_RL_33 mi_X5_of mv_X5_of (by decide) (by decide) (Nat.le_of_ble_eq_true rfl) rfl ?_
  refine l_icmp_eq (g := 1) (k := 54) 1433 rfl (by decide) rfl ?_
  exact hk S2 hI
theorem lc_5 {L : Nat} {xs : Nat → Int32} {Inv : Nat → St → Prop} (hE : EQ3 Inv fX4_change fX5_change) {n : Nat} {S : St} (hi : Inv n S) (hn : n < 512) (hL : 6 * n + 6 ≤ L) (hk : ∀ S2, Inv (n + 1) S2 → LW L xs 1433 [some (.ref 400), some (.ref 0), some (.ref 41), some (.int (nI (6 * n)))] [] S2) : LW L xs 381 [some (.ref 400), some (.ref 0), some (.ref 41), some (.int (nI (6 * n)))] [] S := by
  obtain ⟨r, S1, S2, hx, hm, hI⟩ := hE n S (xs (6 * n + 1)) (xs (6 * n + 2)) (xs (6 * n + 3)) hi hn
  refine l_aload_n (g := 1) (k := 57) (i := 1) rfl rfl rfl ?_
  refine l_aload_n (g := 1) (k := 58) (i := 0) rfl rfl rfl ?_
  refine l_iload_n (g := 1) (k := 59) (i := 3) rfl rfl rfl ?_
  refine l_iconst (g := 1) (k := 60) 1 rfl (by decide) ?_
  refine l_iadd (g := 1) (k := 61) rfl ?_
  refine l_sld (g := 1) (k := 62) (j := 6 * n + 1) rfl (nI_add (6 * n) 1) (by omega) ?_
  refine l_aload_n (g := 1) (k := 63) (i := 0) rfl rfl rfl ?_
  refine l_iload_n (g := 1) (k := 64) (i := 3) rfl rfl rfl ?_
  refine l_iconst (g := 1) (k := 65) 2 rfl (by decide) ?_
  refine l_iadd (g := 1) (k := 66) rfl ?_
  refine l_sld (g := 1) (k := 67) (j := 6 * n + 2) rfl (nI_add (6 * n) 2) (by omega) ?_
  refine l_aload_n (g := 1) (k := 68) (i := 0) rfl rfl rfl ?_
  refine l_iload_n (g := 1) (k := 69) (i := 3) rfl rfl rfl ?_
  refine l_iconst (g := 1) (k := 70) 3 rfl (by decide) ?_
  refine l_iadd (g := 1) (k := 71) rfl ?_
  refine l_sld (g := 1) (k := 72) (j := 6 * n + 3) rfl (nI_add (6 * n) 3) (by omega) ?_
  refine l_callV (g := 1) (k := 73) [.int (xs (6 * n + 1)), .int (xs (6 * n + 2)), .int (xs (6 * n + 3))] [] rfl (tX4_change hx) lay_X4 rfl lc_X4_change ml_RL_34 mi_X4_change mv_X4_change (by decide) (by decide) (Nat.le_of_ble_eq_true rfl) rfl ?_
  refine l_aload_n (g := 1) (k := 74) (i := 2) rfl rfl rfl ?_
  refine l_aload_n (g := 1) (k := 75) (i := 0) rfl rfl rfl ?_
  refine l_iload_n (g := 1) (k := 76) (i := 3) rfl rfl rfl ?_
  refine l_iconst (g := 1) (k := 77) 1 rfl (by decide) ?_
  refine l_iadd (g := 1) (k := 78) rfl ?_
  refine l_sld (g := 1) (k := 79) (j := 6 * n + 1) rfl (nI_add (6 * n) 1) (by omega) ?_
  refine l_aload_n (g := 1) (k := 80) (i := 0) rfl rfl rfl ?_
  refine l_iload_n (g := 1) (k := 81) (i := 3) rfl rfl rfl ?_
  refine l_iconst (g := 1) (k := 82) 2 rfl (by decide) ?_
  refine l_iadd (g := 1) (k := 83) rfl ?_
  refine l_sld (g := 1) (k := 84) (j := 6 * n + 2) rfl (nI_add (6 * n) 2) (by omega) ?_
  refine l_aload_n (g := 1) (k := 85) (i := 0) rfl rfl rfl ?_
  refine l_iload_n (g := 1) (k := 86) (i := 3) rfl rfl rfl ?_
  refine l_iconst (g := 1) (k := 87) 3 rfl (by decide) ?_
  refine l_iadd (g := 1) (k := 88) rfl ?_
  refine l_sld (g := 1) (k := 89) (j := 6 * n + 3) rfl (nI_add (6 * n) 3) (by omega) ?_
  refine l_callV (g := 1) (k := 90) [.int (xs (6 * n + 1)), .int (xs (6 * n + 2)), .int (xs (6 * n + 3))] [.int r] rfl (tX5_change hm) lay_X5 rfl lc_X5_change ml_RL_38 mi_X5_change mv_X5_change (by decide) (by decide) (Nat.le_of_ble_eq_true rfl) rfl ?_
  refine l_icmp_eq (g := 1) (k := 91) 1433 rfl (by decide) rfl ?_
  exact hk S2 hI
theorem lc_6 {L : Nat} {xs : Nat → Int32} {Inv : Nat → St → Prop} (hE : EQ1 Inv fX4_birth fX5_birth) {n : Nat} {S : St} (hi : Inv n S) (hn : n < 512) (hL : 6 * n + 6 ≤ L) (hk : ∀ S2, Inv (n + 1) S2 → LW L xs 1433 [some (.ref 400), some (.ref 0), some (.ref 41), some (.int (nI (6 * n)))] [] S2) : LW L xs 424 [some (.ref 400), some (.ref 0), some (.ref 41), some (.int (nI (6 * n)))] [] S := by
  obtain ⟨r, S1, S2, hx, hm, hI⟩ := hE n S (xs (6 * n + 1)) hi hn
  refine l_aload_n (g := 1) (k := 94) (i := 1) rfl rfl rfl ?_
  refine l_aload_n (g := 1) (k := 95) (i := 0) rfl rfl rfl ?_
  refine l_iload_n (g := 1) (k := 96) (i := 3) rfl rfl rfl ?_
  refine l_iconst (g := 1) (k := 97) 1 rfl (by decide) ?_
  refine l_iadd (g := 1) (k := 98) rfl ?_
  refine l_sld (g := 1) (k := 99) (j := 6 * n + 1) rfl (nI_add (6 * n) 1) (by omega) ?_
  refine l_callV (g := 2) (k := 0) [.int (xs (6 * n + 1))] [] rfl (tX4_birth hx) lay_X4 rfl lc_X4_birth ml_RL_39 mi_X4_birth mv_X4_birth (by decide) (by decide) (Nat.le_of_ble_eq_true rfl) rfl ?_
  refine l_aload_n (g := 2) (k := 1) (i := 2) rfl rfl rfl ?_
  refine l_aload_n (g := 2) (k := 2) (i := 0) rfl rfl rfl ?_
  refine l_iload_n (g := 2) (k := 3) (i := 3) rfl rfl rfl ?_
  refine l_iconst (g := 2) (k := 4) 1 rfl (by decide) ?_
  refine l_iadd (g := 2) (k := 5) rfl ?_
  refine l_sld (g := 2) (k := 6) (j := 6 * n + 1) rfl (nI_add (6 * n) 1) (by omega) ?_
  refine l_callV (g := 2) (k := 7) [.int (xs (6 * n + 1))] [.int r] rfl (tX5_birth hm) lay_X5 rfl lc_X5_birth ml_RL_43 mi_X5_birth mv_X5_birth (by decide) (by decide) (Nat.le_of_ble_eq_true rfl) rfl ?_
  refine l_icmp_eq (g := 2) (k := 8) 1433 rfl (by decide) rfl ?_
  exact hk S2 hI
theorem lc_7 {L : Nat} {xs : Nat → Int32} {Inv : Nat → St → Prop} (hE : EQ1 Inv fX4_ask fX5_ask) {n : Nat} {S : St} (hi : Inv n S) (hn : n < 512) (hL : 6 * n + 6 ≤ L) (hk : ∀ S2, Inv (n + 1) S2 → LW L xs 1433 [some (.ref 400), some (.ref 0), some (.ref 41), some (.int (nI (6 * n)))] [] S2) : LW L xs 447 [some (.ref 400), some (.ref 0), some (.ref 41), some (.int (nI (6 * n)))] [] S := by
  obtain ⟨r, S1, S2, hx, hm, hI⟩ := hE n S (xs (6 * n + 1)) hi hn
  refine l_aload_n (g := 2) (k := 11) (i := 1) rfl rfl rfl ?_
  refine l_aload_n (g := 2) (k := 12) (i := 0) rfl rfl rfl ?_
  refine l_iload_n (g := 2) (k := 13) (i := 3) rfl rfl rfl ?_
  refine l_iconst (g := 2) (k := 14) 1 rfl (by decide) ?_
  refine l_iadd (g := 2) (k := 15) rfl ?_
  refine l_sld (g := 2) (k := 16) (j := 6 * n + 1) rfl (nI_add (6 * n) 1) (by omega) ?_
  refine l_callV (g := 2) (k := 17) [.int (xs (6 * n + 1))] [] rfl (tX4_ask hx) lay_X4 rfl lc_X4_ask ml_RL_44 mi_X4_ask mv_X4_ask (by decide) (by decide) (Nat.le_of_ble_eq_true rfl) rfl ?_
  refine l_aload_n (g := 2) (k := 18) (i := 2) rfl rfl rfl ?_
  refine l_aload_n (g := 2) (k := 19) (i := 0) rfl rfl rfl ?_
  refine l_iload_n (g := 2) (k := 20) (i := 3) rfl rfl rfl ?_
  refine l_iconst (g := 2) (k := 21) 1 rfl (by decide) ?_
  refine l_iadd (g := 2) (k := 22) rfl ?_
  refine l_sld (g := 2) (k := 23) (j := 6 * n + 1) rfl (nI_add (6 * n) 1) (by omega) ?_
  refine l_callV (g := 2) (k := 24) [.int (xs (6 * n + 1))] [.int r] rfl (tX5_ask hm) lay_X5 rfl lc_X5_ask ml_RL_47 mi_X5_ask mv_X5_ask (by decide) (by decide) (Nat.le_of_ble_eq_true rfl) rfl ?_
  refine l_icmp_eq (g := 2) (k := 25) 1433 rfl (by decide) rfl ?_
  exact hk S2 hI
theorem lc_8 {L : Nat} {xs : Nat → Int32} {Inv : Nat → St → Prop} (hE : EQ1 Inv fX4_go fX5_go) {n : Nat} {S : St} (hi : Inv n S) (hn : n < 512) (hL : 6 * n + 6 ≤ L) (hk : ∀ S2, Inv (n + 1) S2 → LW L xs 1433 [some (.ref 400), some (.ref 0), some (.ref 41), some (.int (nI (6 * n)))] [] S2) : LW L xs 470 [some (.ref 400), some (.ref 0), some (.ref 41), some (.int (nI (6 * n)))] [] S := by
  obtain ⟨r, S1, S2, hx, hm, hI⟩ := hE n S (xs (6 * n + 1)) hi hn
  refine l_aload_n (g := 2) (k := 28) (i := 1) rfl rfl rfl ?_
  refine l_aload_n (g := 2) (k := 29) (i := 0) rfl rfl rfl ?_
  refine l_iload_n (g := 2) (k := 30) (i := 3) rfl rfl rfl ?_
  refine l_iconst (g := 2) (k := 31) 1 rfl (by decide) ?_
  refine l_iadd (g := 2) (k := 32) rfl ?_
  refine l_sld (g := 2) (k := 33) (j := 6 * n + 1) rfl (nI_add (6 * n) 1) (by omega) ?_
  refine l_callV (g := 2) (k := 34) [.int (xs (6 * n + 1))] [] rfl (tX4_go hx) lay_X4 rfl lc_X4_go ml_RL_48 mi_X4_go mv_X4_go (by decide) (by decide) (Nat.le_of_ble_eq_true rfl) rfl ?_
  refine l_aload_n (g := 2) (k := 35) (i := 2) rfl rfl rfl ?_
  refine l_aload_n (g := 2) (k := 36) (i := 0) rfl rfl rfl ?_
  refine l_iload_n (g := 2) (k := 37) (i := 3) rfl rfl rfl ?_
  refine l_iconst (g := 2) (k := 38) 1 rfl (by decide) ?_
  refine l_iadd (g := 2) (k := 39) rfl ?_
  refine l_sld (g := 2) (k := 40) (j := 6 * n + 1) rfl (nI_add (6 * n) 1) (by omega) ?_
  refine l_callV (g := 2) (k := 41) [.int (xs (6 * n + 1))] [.int r] rfl (tX5_go hm) lay_X5 rfl lc_X5_go ml_RL_51 mi_X5_go mv_X5_go (by decide) (by decide) (Nat.le_of_ble_eq_true rfl) rfl ?_
  refine l_icmp_eq (g := 2) (k := 42) 1433 rfl (by decide) rfl ?_
  exact hk S2 hI
theorem lc_9 {L : Nat} {xs : Nat → Int32} {Inv : Nat → St → Prop} (hE : EQ1 Inv fX4_now fX5_now) {n : Nat} {S : St} (hi : Inv n S) (hn : n < 512) (hL : 6 * n + 6 ≤ L) (hk : ∀ S2, Inv (n + 1) S2 → LW L xs 1433 [some (.ref 400), some (.ref 0), some (.ref 41), some (.int (nI (6 * n)))] [] S2) : LW L xs 493 [some (.ref 400), some (.ref 0), some (.ref 41), some (.int (nI (6 * n)))] [] S := by
  obtain ⟨r, S1, S2, hx, hm, hI⟩ := hE n S (xs (6 * n + 1)) hi hn
  refine l_aload_n (g := 2) (k := 45) (i := 1) rfl rfl rfl ?_
  refine l_aload_n (g := 2) (k := 46) (i := 0) rfl rfl rfl ?_
  refine l_iload_n (g := 2) (k := 47) (i := 3) rfl rfl rfl ?_
  refine l_iconst (g := 2) (k := 48) 1 rfl (by decide) ?_
  refine l_iadd (g := 2) (k := 49) rfl ?_
  refine l_sld (g := 2) (k := 50) (j := 6 * n + 1) rfl (nI_add (6 * n) 1) (by omega) ?_
  refine l_callV (g := 2) (k := 51) [.int (xs (6 * n + 1))] [] rfl (tX4_now hx) lay_X4 rfl lc_X4_now ml_RL_52 mi_X4_now mv_X4_now (by decide) (by decide) (Nat.le_of_ble_eq_true rfl) rfl ?_
  refine l_aload_n (g := 2) (k := 52) (i := 2) rfl rfl rfl ?_
  refine l_aload_n (g := 2) (k := 53) (i := 0) rfl rfl rfl ?_
  refine l_iload_n (g := 2) (k := 54) (i := 3) rfl rfl rfl ?_
  refine l_iconst (g := 2) (k := 55) 1 rfl (by decide) ?_
  refine l_iadd (g := 2) (k := 56) rfl ?_
  refine l_sld (g := 2) (k := 57) (j := 6 * n + 1) rfl (nI_add (6 * n) 1) (by omega) ?_
  refine l_callV (g := 2) (k := 58) [.int (xs (6 * n + 1))] [.int r] rfl (tX5_now hm) lay_X5 rfl lc_X5_now ml_RL_55 mi_X5_now mv_X5_now (by decide) (by decide) (Nat.le_of_ble_eq_true rfl) rfl ?_
  refine l_icmp_eq (g := 2) (k := 59) 1433 rfl (by decide) rfl ?_
  exact hk S2 hI
theorem lc_10 {L : Nat} {xs : Nat → Int32} {Inv : Nat → St → Prop} (hE : EQ1 Inv fX4_who fX5_who) {n : Nat} {S : St} (hi : Inv n S) (hn : n < 512) (hL : 6 * n + 6 ≤ L) (hk : ∀ S2, Inv (n + 1) S2 → LW L xs 1433 [some (.ref 400), some (.ref 0), some (.ref 41), some (.int (nI (6 * n)))] [] S2) : LW L xs 516 [some (.ref 400), some (.ref 0), some (.ref 41), some (.int (nI (6 * n)))] [] S := by
  obtain ⟨r, S1, S2, hx, hm, hI⟩ := hE n S (xs (6 * n + 1)) hi hn
  refine l_aload_n (g := 2) (k := 62) (i := 1) rfl rfl rfl ?_
  refine l_aload_n (g := 2) (k := 63) (i := 0) rfl rfl rfl ?_
  refine l_iload_n (g := 2) (k := 64) (i := 3) rfl rfl rfl ?_
  refine l_iconst (g := 2) (k := 65) 1 rfl (by decide) ?_
  refine l_iadd (g := 2) (k := 66) rfl ?_
  refine l_sld (g := 2) (k := 67) (j := 6 * n + 1) rfl (nI_add (6 * n) 1) (by omega) ?_
  refine l_callV (g := 2) (k := 68) [.int (xs (6 * n + 1))] [] rfl (tX4_who hx) lay_X4 rfl lc_X4_who ml_RL_56 mi_X4_who mv_X4_who (by decide) (by decide) (Nat.le_of_ble_eq_true rfl) rfl ?_
  refine l_aload_n (g := 2) (k := 69) (i := 2) rfl rfl rfl ?_
  refine l_aload_n (g := 2) (k := 70) (i := 0) rfl rfl rfl ?_
  refine l_iload_n (g := 2) (k := 71) (i := 3) rfl rfl rfl ?_
  refine l_iconst (g := 2) (k := 72) 1 rfl (by decide) ?_
  refine l_iadd (g := 2) (k := 73) rfl ?_
  refine l_sld (g := 2) (k := 74) (j := 6 * n + 1) rfl (nI_add (6 * n) 1) (by omega) ?_
  refine l_callV (g := 2) (k := 75) [.int (xs (6 * n + 1))] [.int r] rfl (tX5_who hm) lay_X5 rfl lc_X5_who ml_RL_59 mi_X5_who mv_X5_who (by decide) (by decide) (Nat.le_of_ble_eq_true rfl) rfl ?_
  refine l_icmp_eq (g := 2) (k := 76) 1433 rfl (by decide) rfl ?_
  exact hk S2 hI
theorem lc_11 {L : Nat} {xs : Nat → Int32} {Inv : Nat → St → Prop} (hE : EQ3 Inv fX4_ahead fX5_ahead) {n : Nat} {S : St} (hi : Inv n S) (hn : n < 512) (hL : 6 * n + 6 ≤ L) (hk : ∀ S2, Inv (n + 1) S2 → LW L xs 1433 [some (.ref 400), some (.ref 0), some (.ref 41), some (.int (nI (6 * n)))] [] S2) : LW L xs 539 [some (.ref 400), some (.ref 0), some (.ref 41), some (.int (nI (6 * n)))] [] S := by
  obtain ⟨r, S1, S2, hx, hm, hI⟩ := hE n S (xs (6 * n + 1)) (xs (6 * n + 2)) (xs (6 * n + 3)) hi hn
  refine l_aload_n (g := 2) (k := 79) (i := 1) rfl rfl rfl ?_
  refine l_aload_n (g := 2) (k := 80) (i := 0) rfl rfl rfl ?_
  refine l_iload_n (g := 2) (k := 81) (i := 3) rfl rfl rfl ?_
  refine l_iconst (g := 2) (k := 82) 1 rfl (by decide) ?_
  refine l_iadd (g := 2) (k := 83) rfl ?_
  refine l_sld (g := 2) (k := 84) (j := 6 * n + 1) rfl (nI_add (6 * n) 1) (by omega) ?_
  refine l_aload_n (g := 2) (k := 85) (i := 0) rfl rfl rfl ?_
  refine l_iload_n (g := 2) (k := 86) (i := 3) rfl rfl rfl ?_
  refine l_iconst (g := 2) (k := 87) 2 rfl (by decide) ?_
  refine l_iadd (g := 2) (k := 88) rfl ?_
  refine l_sld (g := 2) (k := 89) (j := 6 * n + 2) rfl (nI_add (6 * n) 2) (by omega) ?_
  refine l_aload_n (g := 2) (k := 90) (i := 0) rfl rfl rfl ?_
  refine l_iload_n (g := 2) (k := 91) (i := 3) rfl rfl rfl ?_
  refine l_iconst (g := 2) (k := 92) 3 rfl (by decide) ?_
  refine l_iadd (g := 2) (k := 93) rfl ?_
  refine l_sld (g := 2) (k := 94) (j := 6 * n + 3) rfl (nI_add (6 * n) 3) (by omega) ?_
  refine l_callV (g := 2) (k := 95) [.int (xs (6 * n + 1)), .int (xs (6 * n + 2)), .int (xs (6 * n + 3))] [] rfl (tX4_ahead hx) lay_X4 rfl lc_X4_ahead ml_RL_60 mi_X4_ahead mv_X4_ahead (by decide) (by decide) (Nat.le_of_ble_eq_true rfl) rfl ?_
  refine l_aload_n (g := 2) (k := 96) (i := 2) rfl rfl rfl ?_
  refine l_aload_n (g := 2) (k := 97) (i := 0) rfl rfl rfl ?_
  refine l_iload_n (g := 2) (k := 98) (i := 3) rfl rfl rfl ?_
  refine l_iconst (g := 2) (k := 99) 1 rfl (by decide) ?_
  refine l_iadd (g := 3) (k := 0) rfl ?_
  refine l_sld (g := 3) (k := 1) (j := 6 * n + 1) rfl (nI_add (6 * n) 1) (by omega) ?_
  refine l_aload_n (g := 3) (k := 2) (i := 0) rfl rfl rfl ?_
  refine l_iload_n (g := 3) (k := 3) (i := 3) rfl rfl rfl ?_
  refine l_iconst (g := 3) (k := 4) 2 rfl (by decide) ?_
  refine l_iadd (g := 3) (k := 5) rfl ?_
  refine l_sld (g := 3) (k := 6) (j := 6 * n + 2) rfl (nI_add (6 * n) 2) (by omega) ?_
  refine l_aload_n (g := 3) (k := 7) (i := 0) rfl rfl rfl ?_
  refine l_iload_n (g := 3) (k := 8) (i := 3) rfl rfl rfl ?_
  refine l_iconst (g := 3) (k := 9) 3 rfl (by decide) ?_
  refine l_iadd (g := 3) (k := 10) rfl ?_
  refine l_sld (g := 3) (k := 11) (j := 6 * n + 3) rfl (nI_add (6 * n) 3) (by omega) ?_
  refine l_callV (g := 3) (k := 12) [.int (xs (6 * n + 1)), .int (xs (6 * n + 2)), .int (xs (6 * n + 3))] [.int r] rfl (tX5_ahead hm) lay_X5 rfl lc_X5_ahead ml_RL_63 mi_X5_ahead mv_X5_ahead (by decide) (by decide) (Nat.le_of_ble_eq_true rfl) rfl ?_
  refine l_icmp_eq (g := 3) (k := 13) 1433 rfl (by decide) rfl ?_
  exact hk S2 hI
theorem lc_12 {L : Nat} {xs : Nat → Int32} {Inv : Nat → St → Prop} (hE : EQ2 Inv fX4_learns fX5_learns) {n : Nat} {S : St} (hi : Inv n S) (hn : n < 512) (hL : 6 * n + 6 ≤ L) (hk : ∀ S2, Inv (n + 1) S2 → LW L xs 1433 [some (.ref 400), some (.ref 0), some (.ref 41), some (.int (nI (6 * n)))] [] S2) : LW L xs 582 [some (.ref 400), some (.ref 0), some (.ref 41), some (.int (nI (6 * n)))] [] S := by
  obtain ⟨r, S1, S2, hx, hm, hI⟩ := hE n S (xs (6 * n + 1)) (xs (6 * n + 2)) hi hn
  refine l_aload_n (g := 3) (k := 16) (i := 1) rfl rfl rfl ?_
  refine l_aload_n (g := 3) (k := 17) (i := 0) rfl rfl rfl ?_
  refine l_iload_n (g := 3) (k := 18) (i := 3) rfl rfl rfl ?_
  refine l_iconst (g := 3) (k := 19) 1 rfl (by decide) ?_
  refine l_iadd (g := 3) (k := 20) rfl ?_
  refine l_sld (g := 3) (k := 21) (j := 6 * n + 1) rfl (nI_add (6 * n) 1) (by omega) ?_
  refine l_aload_n (g := 3) (k := 22) (i := 0) rfl rfl rfl ?_
  refine l_iload_n (g := 3) (k := 23) (i := 3) rfl rfl rfl ?_
  refine l_iconst (g := 3) (k := 24) 2 rfl (by decide) ?_
  refine l_iadd (g := 3) (k := 25) rfl ?_
  refine l_sld (g := 3) (k := 26) (j := 6 * n + 2) rfl (nI_add (6 * n) 2) (by omega) ?_
  refine l_callV (g := 3) (k := 27) [.int (xs (6 * n + 1)), .int (xs (6 * n + 2))] [] rfl (tX4_learns hx) lay_X4 rfl lc_X4_learns ml_RL_64 mi_X4_learns mv_X4_learns (by decide) (by decide) (Nat.le_of_ble_eq_true rfl) rfl ?_
  refine l_aload_n (g := 3) (k := 28) (i := 2) rfl rfl rfl ?_
  refine l_aload_n (g := 3) (k := 29) (i := 0) rfl rfl rfl ?_
  refine l_iload_n (g := 3) (k := 30) (i := 3) rfl rfl rfl ?_
  refine l_iconst (g := 3) (k := 31) 1 rfl (by decide) ?_
  refine l_iadd (g := 3) (k := 32) rfl ?_
  refine l_sld (g := 3) (k := 33) (j := 6 * n + 1) rfl (nI_add (6 * n) 1) (by omega) ?_
  refine l_aload_n (g := 3) (k := 34) (i := 0) rfl rfl rfl ?_
  refine l_iload_n (g := 3) (k := 35) (i := 3) rfl rfl rfl ?_
  refine l_iconst (g := 3) (k := 36) 2 rfl (by decide) ?_
  refine l_iadd (g := 3) (k := 37) rfl ?_
  refine l_sld (g := 3) (k := 38) (j := 6 * n + 2) rfl (nI_add (6 * n) 2) (by omega) ?_
  refine l_callV (g := 3) (k := 39) [.int (xs (6 * n + 1)), .int (xs (6 * n + 2))] [.int r] rfl (tX5_learns hm) lay_X5 rfl lc_X5_learns ml_RL_67 mi_X5_learns mv_X5_learns (by decide) (by decide) (Nat.le_of_ble_eq_true rfl) rfl ?_
  refine l_icmp_eq (g := 3) (k := 40) 1433 rfl (by decide) rfl ?_
  exact hk S2 hI
theorem lc_13 {L : Nat} {xs : Nat → Int32} {Inv : Nat → St → Prop} (hE : EQ1 Inv fX4_lost fX5_lost) {n : Nat} {S : St} (hi : Inv n S) (hn : n < 512) (hL : 6 * n + 6 ≤ L) (hk : ∀ S2, Inv (n + 1) S2 → LW L xs 1433 [some (.ref 400), some (.ref 0), some (.ref 41), some (.int (nI (6 * n)))] [] S2) : LW L xs 615 [some (.ref 400), some (.ref 0), some (.ref 41), some (.int (nI (6 * n)))] [] S := by
  obtain ⟨r, S1, S2, hx, hm, hI⟩ := hE n S (xs (6 * n + 1)) hi hn
  refine l_aload_n (g := 3) (k := 43) (i := 1) rfl rfl rfl ?_
  refine l_aload_n (g := 3) (k := 44) (i := 0) rfl rfl rfl ?_
  refine l_iload_n (g := 3) (k := 45) (i := 3) rfl rfl rfl ?_
  refine l_iconst (g := 3) (k := 46) 1 rfl (by decide) ?_
  refine l_iadd (g := 3) (k := 47) rfl ?_
  refine l_sld (g := 3) (k := 48) (j := 6 * n + 1) rfl (nI_add (6 * n) 1) (by omega) ?_
  refine l_callV (g := 3) (k := 49) [.int (xs (6 * n + 1))] [] rfl (tX4_lost hx) lay_X4 rfl lc_X4_lost ml_RL_68 mi_X4_lost mv_X4_lost (by decide) (by decide) (Nat.le_of_ble_eq_true rfl) rfl ?_
  refine l_aload_n (g := 3) (k := 50) (i := 2) rfl rfl rfl ?_
  refine l_aload_n (g := 3) (k := 51) (i := 0) rfl rfl rfl ?_
  refine l_iload_n (g := 3) (k := 52) (i := 3) rfl rfl rfl ?_
  refine l_iconst (g := 3) (k := 53) 1 rfl (by decide) ?_
  refine l_iadd (g := 3) (k := 54) rfl ?_
  refine l_sld (g := 3) (k := 55) (j := 6 * n + 1) rfl (nI_add (6 * n) 1) (by omega) ?_
  refine l_callV (g := 3) (k := 56) [.int (xs (6 * n + 1))] [.int r] rfl (tX5_lost hm) lay_X5 rfl lc_X5_lost ml_RL_71 mi_X5_lost mv_X5_lost (by decide) (by decide) (Nat.le_of_ble_eq_true rfl) rfl ?_
  refine l_icmp_eq (g := 3) (k := 57) 1433 rfl (by decide) rfl ?_
  exact hk S2 hI
theorem lc_14 {L : Nat} {xs : Nat → Int32} {Inv : Nat → St → Prop} (hE : EQ2 Inv fX4_meet fX5_meet) {n : Nat} {S : St} (hi : Inv n S) (hn : n < 512) (hL : 6 * n + 6 ≤ L) (hk : ∀ S2, Inv (n + 1) S2 → LW L xs 1433 [some (.ref 400), some (.ref 0), some (.ref 41), some (.int (nI (6 * n)))] [] S2) : LW L xs 638 [some (.ref 400), some (.ref 0), some (.ref 41), some (.int (nI (6 * n)))] [] S := by
  obtain ⟨r, S1, S2, hx, hm, hI⟩ := hE n S (xs (6 * n + 1)) (xs (6 * n + 2)) hi hn
  refine l_aload_n (g := 3) (k := 60) (i := 1) rfl rfl rfl ?_
  refine l_aload_n (g := 3) (k := 61) (i := 0) rfl rfl rfl ?_
  refine l_iload_n (g := 3) (k := 62) (i := 3) rfl rfl rfl ?_
  refine l_iconst (g := 3) (k := 63) 1 rfl (by decide) ?_
  refine l_iadd (g := 3) (k := 64) rfl ?_
  refine l_sld (g := 3) (k := 65) (j := 6 * n + 1) rfl (nI_add (6 * n) 1) (by omega) ?_
  refine l_aload_n (g := 3) (k := 66) (i := 0) rfl rfl rfl ?_
  refine l_iload_n (g := 3) (k := 67) (i := 3) rfl rfl rfl ?_
  refine l_iconst (g := 3) (k := 68) 2 rfl (by decide) ?_
  refine l_iadd (g := 3) (k := 69) rfl ?_
  refine l_sld (g := 3) (k := 70) (j := 6 * n + 2) rfl (nI_add (6 * n) 2) (by omega) ?_
  refine l_callV (g := 3) (k := 71) [.int (xs (6 * n + 1)), .int (xs (6 * n + 2))] [] rfl (tX4_meet hx) lay_X4 rfl lc_X4_meet ml_RL_72 mi_X4_meet mv_X4_meet (by decide) (by decide) (Nat.le_of_ble_eq_true rfl) rfl ?_
  refine l_aload_n (g := 3) (k := 72) (i := 2) rfl rfl rfl ?_
  refine l_aload_n (g := 3) (k := 73) (i := 0) rfl rfl rfl ?_
  refine l_iload_n (g := 3) (k := 74) (i := 3) rfl rfl rfl ?_
  refine l_iconst (g := 3) (k := 75) 1 rfl (by decide) ?_
  refine l_iadd (g := 3) (k := 76) rfl ?_
  refine l_sld (g := 3) (k := 77) (j := 6 * n + 1) rfl (nI_add (6 * n) 1) (by omega) ?_
  refine l_aload_n (g := 3) (k := 78) (i := 0) rfl rfl rfl ?_
  refine l_iload_n (g := 3) (k := 79) (i := 3) rfl rfl rfl ?_
  refine l_iconst (g := 3) (k := 80) 2 rfl (by decide) ?_
  refine l_iadd (g := 3) (k := 81) rfl ?_
  refine l_sld (g := 3) (k := 82) (j := 6 * n + 2) rfl (nI_add (6 * n) 2) (by omega) ?_
  refine l_callV (g := 3) (k := 83) [.int (xs (6 * n + 1)), .int (xs (6 * n + 2))] [.int r] rfl (tX5_meet hm) lay_X5 rfl lc_X5_meet ml_RL_75 mi_X5_meet mv_X5_meet (by decide) (by decide) (Nat.le_of_ble_eq_true rfl) rfl ?_
  refine l_icmp_eq (g := 3) (k := 84) 1433 rfl (by decide) rfl ?_
  exact hk S2 hI
theorem lc_15 {L : Nat} {xs : Nat → Int32} {Inv : Nat → St → Prop} (hE : EQ2 Inv fX4_reach fX5_reach) {n : Nat} {S : St} (hi : Inv n S) (hn : n < 512) (hL : 6 * n + 6 ≤ L) (hk : ∀ S2, Inv (n + 1) S2 → LW L xs 1433 [some (.ref 400), some (.ref 0), some (.ref 41), some (.int (nI (6 * n)))] [] S2) : LW L xs 671 [some (.ref 400), some (.ref 0), some (.ref 41), some (.int (nI (6 * n)))] [] S := by
  obtain ⟨r, S1, S2, hx, hm, hI⟩ := hE n S (xs (6 * n + 1)) (xs (6 * n + 2)) hi hn
  refine l_aload_n (g := 3) (k := 87) (i := 1) rfl rfl rfl ?_
  refine l_aload_n (g := 3) (k := 88) (i := 0) rfl rfl rfl ?_
  refine l_iload_n (g := 3) (k := 89) (i := 3) rfl rfl rfl ?_
  refine l_iconst (g := 3) (k := 90) 1 rfl (by decide) ?_
  refine l_iadd (g := 3) (k := 91) rfl ?_
  refine l_sld (g := 3) (k := 92) (j := 6 * n + 1) rfl (nI_add (6 * n) 1) (by omega) ?_
  refine l_aload_n (g := 3) (k := 93) (i := 0) rfl rfl rfl ?_
  refine l_iload_n (g := 3) (k := 94) (i := 3) rfl rfl rfl ?_
  refine l_iconst (g := 3) (k := 95) 2 rfl (by decide) ?_
  refine l_iadd (g := 3) (k := 96) rfl ?_
  refine l_sld (g := 3) (k := 97) (j := 6 * n + 2) rfl (nI_add (6 * n) 2) (by omega) ?_
  refine l_callV (g := 3) (k := 98) [.int (xs (6 * n + 1)), .int (xs (6 * n + 2))] [] rfl (tX4_reach hx) lay_X4 rfl lc_X4_reach ml_RL_76 mi_X4_reach mv_X4_reach (by decide) (by decide) (Nat.le_of_ble_eq_true rfl) rfl ?_
  refine l_aload_n (g := 3) (k := 99) (i := 2) rfl rfl rfl ?_
  refine l_aload_n (g := 4) (k := 0) (i := 0) rfl rfl rfl ?_
  refine l_iload_n (g := 4) (k := 1) (i := 3) rfl rfl rfl ?_
  refine l_iconst (g := 4) (k := 2) 1 rfl (by decide) ?_
  refine l_iadd (g := 4) (k := 3) rfl ?_
  refine l_sld (g := 4) (k := 4) (j := 6 * n + 1) rfl (nI_add (6 * n) 1) (by omega) ?_
  refine l_aload_n (g := 4) (k := 5) (i := 0) rfl rfl rfl ?_
  refine l_iload_n (g := 4) (k := 6) (i := 3) rfl rfl rfl ?_
  refine l_iconst (g := 4) (k := 7) 2 rfl (by decide) ?_
  refine l_iadd (g := 4) (k := 8) rfl ?_
  refine l_sld (g := 4) (k := 9) (j := 6 * n + 2) rfl (nI_add (6 * n) 2) (by omega) ?_
  refine l_callV (g := 4) (k := 10) [.int (xs (6 * n + 1)), .int (xs (6 * n + 2))] [.int r] rfl (tX5_reach hm) lay_X5 rfl lc_X5_reach ml_RL_79 mi_X5_reach mv_X5_reach (by decide) (by decide) (Nat.le_of_ble_eq_true rfl) rfl ?_
  refine l_icmp_eq (g := 4) (k := 11) 1433 rfl (by decide) rfl ?_
  exact hk S2 hI
theorem lc_16 {L : Nat} {xs : Nat → Int32} {Inv : Nat → St → Prop} (hE : EQ2 Inv fX4_put fX5_put) {n : Nat} {S : St} (hi : Inv n S) (hn : n < 512) (hL : 6 * n + 6 ≤ L) (hk : ∀ S2, Inv (n + 1) S2 → LW L xs 1433 [some (.ref 400), some (.ref 0), some (.ref 41), some (.int (nI (6 * n)))] [] S2) : LW L xs 704 [some (.ref 400), some (.ref 0), some (.ref 41), some (.int (nI (6 * n)))] [] S := by
  obtain ⟨r, S1, S2, hx, hm, hI⟩ := hE n S (xs (6 * n + 1)) (xs (6 * n + 2)) hi hn
  refine l_aload_n (g := 4) (k := 14) (i := 1) rfl rfl rfl ?_
  refine l_aload_n (g := 4) (k := 15) (i := 0) rfl rfl rfl ?_
  refine l_iload_n (g := 4) (k := 16) (i := 3) rfl rfl rfl ?_
  refine l_iconst (g := 4) (k := 17) 1 rfl (by decide) ?_
  refine l_iadd (g := 4) (k := 18) rfl ?_
  refine l_sld (g := 4) (k := 19) (j := 6 * n + 1) rfl (nI_add (6 * n) 1) (by omega) ?_
  refine l_aload_n (g := 4) (k := 20) (i := 0) rfl rfl rfl ?_
  refine l_iload_n (g := 4) (k := 21) (i := 3) rfl rfl rfl ?_
  refine l_iconst (g := 4) (k := 22) 2 rfl (by decide) ?_
  refine l_iadd (g := 4) (k := 23) rfl ?_
  refine l_sld (g := 4) (k := 24) (j := 6 * n + 2) rfl (nI_add (6 * n) 2) (by omega) ?_
  refine l_callV (g := 4) (k := 25) [.int (xs (6 * n + 1)), .int (xs (6 * n + 2))] [] rfl (tX4_put hx) lay_X4 rfl lc_X4_put ml_RL_80 mi_X4_put mv_X4_put (by decide) (by decide) (Nat.le_of_ble_eq_true rfl) rfl ?_
  refine l_aload_n (g := 4) (k := 26) (i := 2) rfl rfl rfl ?_
  refine l_aload_n (g := 4) (k := 27) (i := 0) rfl rfl rfl ?_
  refine l_iload_n (g := 4) (k := 28) (i := 3) rfl rfl rfl ?_
  refine l_iconst (g := 4) (k := 29) 1 rfl (by decide) ?_
  refine l_iadd (g := 4) (k := 30) rfl ?_
  refine l_sld (g := 4) (k := 31) (j := 6 * n + 1) rfl (nI_add (6 * n) 1) (by omega) ?_
  refine l_aload_n (g := 4) (k := 32) (i := 0) rfl rfl rfl ?_
  refine l_iload_n (g := 4) (k := 33) (i := 3) rfl rfl rfl ?_
  refine l_iconst (g := 4) (k := 34) 2 rfl (by decide) ?_
  refine l_iadd (g := 4) (k := 35) rfl ?_
  refine l_sld (g := 4) (k := 36) (j := 6 * n + 2) rfl (nI_add (6 * n) 2) (by omega) ?_
  refine l_callV (g := 4) (k := 37) [.int (xs (6 * n + 1)), .int (xs (6 * n + 2))] [.int r] rfl (tX5_put hm) lay_X5 rfl lc_X5_put ml_RL_83 mi_X5_put mv_X5_put (by decide) (by decide) (Nat.le_of_ble_eq_true rfl) rfl ?_
  refine l_icmp_eq (g := 4) (k := 38) 1433 rfl (by decide) rfl ?_
  exact hk S2 hI
theorem lc_17 {L : Nat} {xs : Nat → Int32} {Inv : Nat → St → Prop} (hE : EQ2 Inv fX4_kindFor fX5_kindFor) {n : Nat} {S : St} (hi : Inv n S) (hn : n < 512) (hL : 6 * n + 6 ≤ L) (hk : ∀ S2, Inv (n + 1) S2 → LW L xs 1433 [some (.ref 400), some (.ref 0), some (.ref 41), some (.int (nI (6 * n)))] [] S2) : LW L xs 737 [some (.ref 400), some (.ref 0), some (.ref 41), some (.int (nI (6 * n)))] [] S := by
  obtain ⟨r, S1, S2, hx, hm, hI⟩ := hE n S (xs (6 * n + 1)) (xs (6 * n + 2)) hi hn
  refine l_aload_n (g := 4) (k := 41) (i := 1) rfl rfl rfl ?_
  refine l_aload_n (g := 4) (k := 42) (i := 0) rfl rfl rfl ?_
  refine l_iload_n (g := 4) (k := 43) (i := 3) rfl rfl rfl ?_
  refine l_iconst (g := 4) (k := 44) 1 rfl (by decide) ?_
  refine l_iadd (g := 4) (k := 45) rfl ?_
  refine l_sld (g := 4) (k := 46) (j := 6 * n + 1) rfl (nI_add (6 * n) 1) (by omega) ?_
  refine l_aload_n (g := 4) (k := 47) (i := 0) rfl rfl rfl ?_
  refine l_iload_n (g := 4) (k := 48) (i := 3) rfl rfl rfl ?_
  refine l_iconst (g := 4) (k := 49) 2 rfl (by decide) ?_
  refine l_iadd (g := 4) (k := 50) rfl ?_
  refine l_sld (g := 4) (k := 51) (j := 6 * n + 2) rfl (nI_add (6 * n) 2) (by omega) ?_
  refine l_callV (g := 4) (k := 52) [.int (xs (6 * n + 1)), .int (xs (6 * n + 2))] [] rfl (tX4_kindFor hx) lay_X4 rfl lc_X4_kindFor ml_RL_84 mi_X4_kindFor mv_X4_kindFor (by decide) (by decide) (Nat.le_of_ble_eq_true rfl) rfl ?_
  refine l_aload_n (g := 4) (k := 53) (i := 2) rfl rfl rfl ?_
  refine l_aload_n (g := 4) (k := 54) (i := 0) rfl rfl rfl ?_
  refine l_iload_n (g := 4) (k := 55) (i := 3) rfl rfl rfl ?_
  refine l_iconst (g := 4) (k := 56) 1 rfl (by decide) ?_
  refine l_iadd (g := 4) (k := 57) rfl ?_
  refine l_sld (g := 4) (k := 58) (j := 6 * n + 1) rfl (nI_add (6 * n) 1) (by omega) ?_
  refine l_aload_n (g := 4) (k := 59) (i := 0) rfl rfl rfl ?_
  refine l_iload_n (g := 4) (k := 60) (i := 3) rfl rfl rfl ?_
  refine l_iconst (g := 4) (k := 61) 2 rfl (by decide) ?_
  refine l_iadd (g := 4) (k := 62) rfl ?_
  refine l_sld (g := 4) (k := 63) (j := 6 * n + 2) rfl (nI_add (6 * n) 2) (by omega) ?_
  refine l_callV (g := 4) (k := 64) [.int (xs (6 * n + 1)), .int (xs (6 * n + 2))] [.int r] rfl (tX5_kindFor hm) lay_X5 rfl lc_X5_kindFor ml_RL_87 mi_X5_kindFor mv_X5_kindFor (by decide) (by decide) (Nat.le_of_ble_eq_true rfl) rfl ?_
  refine l_icmp_eq (g := 4) (k := 65) 1433 rfl (by decide) rfl ?_
  exact hk S2 hI
theorem lc_18 {L : Nat} {xs : Nat → Int32} {Inv : Nat → St → Prop} (hE : EQ2 Inv fX4_growsFor fX5_growsFor) {n : Nat} {S : St} (hi : Inv n S) (hn : n < 512) (hL : 6 * n + 6 ≤ L) (hk : ∀ S2, Inv (n + 1) S2 → LW L xs 1433 [some (.ref 400), some (.ref 0), some (.ref 41), some (.int (nI (6 * n)))] [] S2) : LW L xs 770 [some (.ref 400), some (.ref 0), some (.ref 41), some (.int (nI (6 * n)))] [] S := by
  obtain ⟨r, S1, S2, hx, hm, hI⟩ := hE n S (xs (6 * n + 1)) (xs (6 * n + 2)) hi hn
  refine l_aload_n (g := 4) (k := 68) (i := 1) rfl rfl rfl ?_
  refine l_aload_n (g := 4) (k := 69) (i := 0) rfl rfl rfl ?_
  refine l_iload_n (g := 4) (k := 70) (i := 3) rfl rfl rfl ?_
  refine l_iconst (g := 4) (k := 71) 1 rfl (by decide) ?_
  refine l_iadd (g := 4) (k := 72) rfl ?_
  refine l_sld (g := 4) (k := 73) (j := 6 * n + 1) rfl (nI_add (6 * n) 1) (by omega) ?_
  refine l_aload_n (g := 4) (k := 74) (i := 0) rfl rfl rfl ?_
  refine l_iload_n (g := 4) (k := 75) (i := 3) rfl rfl rfl ?_
  refine l_iconst (g := 4) (k := 76) 2 rfl (by decide) ?_
  refine l_iadd (g := 4) (k := 77) rfl ?_
  refine l_sld (g := 4) (k := 78) (j := 6 * n + 2) rfl (nI_add (6 * n) 2) (by omega) ?_
  refine l_callV (g := 4) (k := 79) [.int (xs (6 * n + 1)), .int (xs (6 * n + 2))] [] rfl (tX4_growsFor hx) lay_X4 rfl lc_X4_growsFor ml_RL_88 mi_X4_growsFor mv_X4_growsFor (by decide) (by decide) (Nat.le_of_ble_eq_true rfl) rfl ?_
  refine l_aload_n (g := 4) (k := 80) (i := 2) rfl rfl rfl ?_
  refine l_aload_n (g := 4) (k := 81) (i := 0) rfl rfl rfl ?_
  refine l_iload_n (g := 4) (k := 82) (i := 3) rfl rfl rfl ?_
  refine l_iconst (g := 4) (k := 83) 1 rfl (by decide) ?_
  refine l_iadd (g := 4) (k := 84) rfl ?_
  refine l_sld (g := 4) (k := 85) (j := 6 * n + 1) rfl (nI_add (6 * n) 1) (by omega) ?_
  refine l_aload_n (g := 4) (k := 86) (i := 0) rfl rfl rfl ?_
  refine l_iload_n (g := 4) (k := 87) (i := 3) rfl rfl rfl ?_
  refine l_iconst (g := 4) (k := 88) 2 rfl (by decide) ?_
  refine l_iadd (g := 4) (k := 89) rfl ?_
  refine l_sld (g := 4) (k := 90) (j := 6 * n + 2) rfl (nI_add (6 * n) 2) (by omega) ?_
  refine l_callV (g := 4) (k := 91) [.int (xs (6 * n + 1)), .int (xs (6 * n + 2))] [.int r] rfl (tX5_growsFor hm) lay_X5 rfl lc_X5_growsFor ml_RL_91 mi_X5_growsFor mv_X5_growsFor (by decide) (by decide) (Nat.le_of_ble_eq_true rfl) rfl ?_
  refine l_icmp_eq (g := 4) (k := 92) 1433 rfl (by decide) rfl ?_
  exact hk S2 hI
theorem lc_19 {L : Nat} {xs : Nat → Int32} {Inv : Nat → St → Prop} (hE : EQ1 Inv fX4_cover fX5_cover) {n : Nat} {S : St} (hi : Inv n S) (hn : n < 512) (hL : 6 * n + 6 ≤ L) (hk : ∀ S2, Inv (n + 1) S2 → LW L xs 1433 [some (.ref 400), some (.ref 0), some (.ref 41), some (.int (nI (6 * n)))] [] S2) : LW L xs 803 [some (.ref 400), some (.ref 0), some (.ref 41), some (.int (nI (6 * n)))] [] S := by
  obtain ⟨r, S1, S2, hx, hm, hI⟩ := hE n S (xs (6 * n + 1)) hi hn
  refine l_aload_n (g := 4) (k := 95) (i := 1) rfl rfl rfl ?_
  refine l_aload_n (g := 4) (k := 96) (i := 0) rfl rfl rfl ?_
  refine l_iload_n (g := 4) (k := 97) (i := 3) rfl rfl rfl ?_
  refine l_iconst (g := 4) (k := 98) 1 rfl (by decide) ?_
  refine l_iadd (g := 4) (k := 99) rfl ?_
  refine l_sld (g := 5) (k := 0) (j := 6 * n + 1) rfl (nI_add (6 * n) 1) (by omega) ?_
  refine l_callV (g := 5) (k := 1) [.int (xs (6 * n + 1))] [] rfl (tX4_cover hx) lay_X4 rfl lc_X4_cover ml_RL_92 mi_X4_cover mv_X4_cover (by decide) (by decide) (Nat.le_of_ble_eq_true rfl) rfl ?_
  refine l_aload_n (g := 5) (k := 2) (i := 2) rfl rfl rfl ?_
  refine l_aload_n (g := 5) (k := 3) (i := 0) rfl rfl rfl ?_
  refine l_iload_n (g := 5) (k := 4) (i := 3) rfl rfl rfl ?_
  refine l_iconst (g := 5) (k := 5) 1 rfl (by decide) ?_
  refine l_iadd (g := 5) (k := 6) rfl ?_
  refine l_sld (g := 5) (k := 7) (j := 6 * n + 1) rfl (nI_add (6 * n) 1) (by omega) ?_
  refine l_callV (g := 5) (k := 8) [.int (xs (6 * n + 1))] [.int r] rfl (tX5_cover hm) lay_X5 rfl lc_X5_cover ml_RL_95 mi_X5_cover mv_X5_cover (by decide) (by decide) (Nat.le_of_ble_eq_true rfl) rfl ?_
  refine l_icmp_eq (g := 5) (k := 9) 1433 rfl (by decide) rfl ?_
  exact hk S2 hI
theorem lc_20 {L : Nat} {xs : Nat → Int32} {Inv : Nat → St → Prop} (hE : EQ1 Inv fX4_price fX5_price) {n : Nat} {S : St} (hi : Inv n S) (hn : n < 512) (hL : 6 * n + 6 ≤ L) (hk : ∀ S2, Inv (n + 1) S2 → LW L xs 1433 [some (.ref 400), some (.ref 0), some (.ref 41), some (.int (nI (6 * n)))] [] S2) : LW L xs 826 [some (.ref 400), some (.ref 0), some (.ref 41), some (.int (nI (6 * n)))] [] S := by
  obtain ⟨r, S1, S2, hx, hm, hI⟩ := hE n S (xs (6 * n + 1)) hi hn
  refine l_aload_n (g := 5) (k := 12) (i := 1) rfl rfl rfl ?_
  refine l_aload_n (g := 5) (k := 13) (i := 0) rfl rfl rfl ?_
  refine l_iload_n (g := 5) (k := 14) (i := 3) rfl rfl rfl ?_
  refine l_iconst (g := 5) (k := 15) 1 rfl (by decide) ?_
  refine l_iadd (g := 5) (k := 16) rfl ?_
  refine l_sld (g := 5) (k := 17) (j := 6 * n + 1) rfl (nI_add (6 * n) 1) (by omega) ?_
  refine l_callV (g := 5) (k := 18) [.int (xs (6 * n + 1))] [] rfl (tX4_price hx) lay_X4 rfl lc_X4_price ml_RL_96 mi_X4_price mv_X4_price (by decide) (by decide) (Nat.le_of_ble_eq_true rfl) rfl ?_
  refine l_aload_n (g := 5) (k := 19) (i := 2) rfl rfl rfl ?_
  refine l_aload_n (g := 5) (k := 20) (i := 0) rfl rfl rfl ?_
  refine l_iload_n (g := 5) (k := 21) (i := 3) rfl rfl rfl ?_
  refine l_iconst (g := 5) (k := 22) 1 rfl (by decide) ?_
  refine l_iadd (g := 5) (k := 23) rfl ?_
  refine l_sld (g := 5) (k := 24) (j := 6 * n + 1) rfl (nI_add (6 * n) 1) (by omega) ?_
  refine l_callV (g := 5) (k := 25) [.int (xs (6 * n + 1))] [.int r] rfl (tX5_price hm) lay_X5 rfl lc_X5_price ml_RL_99 mi_X5_price mv_X5_price (by decide) (by decide) (Nat.le_of_ble_eq_true rfl) rfl ?_
  refine l_icmp_eq (g := 5) (k := 26) 1433 rfl (by decide) rfl ?_
  exact hk S2 hI
theorem lc_21 {L : Nat} {xs : Nat → Int32} {Inv : Nat → St → Prop} (hE : EQ2 Inv fX4_censor fX5_censor) {n : Nat} {S : St} (hi : Inv n S) (hn : n < 512) (hL : 6 * n + 6 ≤ L) (hk : ∀ S2, Inv (n + 1) S2 → LW L xs 1433 [some (.ref 400), some (.ref 0), some (.ref 41), some (.int (nI (6 * n)))] [] S2) : LW L xs 849 [some (.ref 400), some (.ref 0), some (.ref 41), some (.int (nI (6 * n)))] [] S := by
  obtain ⟨r, S1, S2, hx, hm, hI⟩ := hE n S (xs (6 * n + 1)) (xs (6 * n + 2)) hi hn
  refine l_aload_n (g := 5) (k := 29) (i := 1) rfl rfl rfl ?_
  refine l_aload_n (g := 5) (k := 30) (i := 0) rfl rfl rfl ?_
  refine l_iload_n (g := 5) (k := 31) (i := 3) rfl rfl rfl ?_
  refine l_iconst (g := 5) (k := 32) 1 rfl (by decide) ?_
  refine l_iadd (g := 5) (k := 33) rfl ?_
  refine l_sld (g := 5) (k := 34) (j := 6 * n + 1) rfl (nI_add (6 * n) 1) (by omega) ?_
  refine l_aload_n (g := 5) (k := 35) (i := 0) rfl rfl rfl ?_
  refine l_iload_n (g := 5) (k := 36) (i := 3) rfl rfl rfl ?_
  refine l_iconst (g := 5) (k := 37) 2 rfl (by decide) ?_
  refine l_iadd (g := 5) (k := 38) rfl ?_
  refine l_sld (g := 5) (k := 39) (j := 6 * n + 2) rfl (nI_add (6 * n) 2) (by omega) ?_
  refine l_callV (g := 5) (k := 40) [.int (xs (6 * n + 1)), .int (xs (6 * n + 2))] [] rfl (tX4_censor hx) lay_X4 rfl lc_X4_censor ml_RL_100 mi_X4_censor mv_X4_censor (by decide) (by decide) (Nat.le_of_ble_eq_true rfl) rfl ?_
  refine l_aload_n (g := 5) (k := 41) (i := 2) rfl rfl rfl ?_
  refine l_aload_n (g := 5) (k := 42) (i := 0) rfl rfl rfl ?_
  refine l_iload_n (g := 5) (k := 43) (i := 3) rfl rfl rfl ?_
  refine l_iconst (g := 5) (k := 44) 1 rfl (by decide) ?_
  refine l_iadd (g := 5) (k := 45) rfl ?_
  refine l_sld (g := 5) (k := 46) (j := 6 * n + 1) rfl (nI_add (6 * n) 1) (by omega) ?_
  refine l_aload_n (g := 5) (k := 47) (i := 0) rfl rfl rfl ?_
  refine l_iload_n (g := 5) (k := 48) (i := 3) rfl rfl rfl ?_
  refine l_iconst (g := 5) (k := 49) 2 rfl (by decide) ?_
  refine l_iadd (g := 5) (k := 50) rfl ?_
  refine l_sld (g := 5) (k := 51) (j := 6 * n + 2) rfl (nI_add (6 * n) 2) (by omega) ?_
  refine l_callV (g := 5) (k := 52) [.int (xs (6 * n + 1)), .int (xs (6 * n + 2))] [.int r] rfl (tX5_censor hm) lay_X5 rfl lc_X5_censor ml_RL_103 mi_X5_censor mv_X5_censor (by decide) (by decide) (Nat.le_of_ble_eq_true rfl) rfl ?_
  refine l_icmp_eq (g := 5) (k := 53) 1433 rfl (by decide) rfl ?_
  exact hk S2 hI
theorem lc_22 {L : Nat} {xs : Nat → Int32} {Inv : Nat → St → Prop} (hE : EQ2 Inv fX4_kinds fX5_kinds) {n : Nat} {S : St} (hi : Inv n S) (hn : n < 512) (hL : 6 * n + 6 ≤ L) (hk : ∀ S2, Inv (n + 1) S2 → LW L xs 1433 [some (.ref 400), some (.ref 0), some (.ref 41), some (.int (nI (6 * n)))] [] S2) : LW L xs 882 [some (.ref 400), some (.ref 0), some (.ref 41), some (.int (nI (6 * n)))] [] S := by
  obtain ⟨r, S1, S2, hx, hm, hI⟩ := hE n S (xs (6 * n + 1)) (xs (6 * n + 2)) hi hn
  refine l_aload_n (g := 5) (k := 56) (i := 1) rfl rfl rfl ?_
  refine l_aload_n (g := 5) (k := 57) (i := 0) rfl rfl rfl ?_
  refine l_iload_n (g := 5) (k := 58) (i := 3) rfl rfl rfl ?_
  refine l_iconst (g := 5) (k := 59) 1 rfl (by decide) ?_
  refine l_iadd (g := 5) (k := 60) rfl ?_
  refine l_sld (g := 5) (k := 61) (j := 6 * n + 1) rfl (nI_add (6 * n) 1) (by omega) ?_
  refine l_aload_n (g := 5) (k := 62) (i := 0) rfl rfl rfl ?_
  refine l_iload_n (g := 5) (k := 63) (i := 3) rfl rfl rfl ?_
  refine l_iconst (g := 5) (k := 64) 2 rfl (by decide) ?_
  refine l_iadd (g := 5) (k := 65) rfl ?_
  refine l_sld (g := 5) (k := 66) (j := 6 * n + 2) rfl (nI_add (6 * n) 2) (by omega) ?_
  refine l_callV (g := 5) (k := 67) [.int (xs (6 * n + 1)), .int (xs (6 * n + 2))] [] rfl (tX4_kinds hx) lay_X4 rfl lc_X4_kinds ml_RL_104 mi_X4_kinds mv_X4_kinds (by decide) (by decide) (Nat.le_of_ble_eq_true rfl) rfl ?_
  refine l_aload_n (g := 5) (k := 68) (i := 2) rfl rfl rfl ?_
  refine l_aload_n (g := 5) (k := 69) (i := 0) rfl rfl rfl ?_
  refine l_iload_n (g := 5) (k := 70) (i := 3) rfl rfl rfl ?_
  refine l_iconst (g := 5) (k := 71) 1 rfl (by decide) ?_
  refine l_iadd (g := 5) (k := 72) rfl ?_
  refine l_sld (g := 5) (k := 73) (j := 6 * n + 1) rfl (nI_add (6 * n) 1) (by omega) ?_
  refine l_aload_n (g := 5) (k := 74) (i := 0) rfl rfl rfl ?_
  refine l_iload_n (g := 5) (k := 75) (i := 3) rfl rfl rfl ?_
  refine l_iconst (g := 5) (k := 76) 2 rfl (by decide) ?_
  refine l_iadd (g := 5) (k := 77) rfl ?_
  refine l_sld (g := 5) (k := 78) (j := 6 * n + 2) rfl (nI_add (6 * n) 2) (by omega) ?_
  refine l_callV (g := 5) (k := 79) [.int (xs (6 * n + 1)), .int (xs (6 * n + 2))] [.int r] rfl (tX5_kinds hm) lay_X5 rfl lc_X5_kinds ml_RL_107 mi_X5_kinds mv_X5_kinds (by decide) (by decide) (Nat.le_of_ble_eq_true rfl) rfl ?_
  refine l_icmp_eq (g := 5) (k := 80) 1433 rfl (by decide) rfl ?_
  exact hk S2 hI
theorem lc_23 {L : Nat} {xs : Nat → Int32} {Inv : Nat → St → Prop} (hE : EQ2 Inv fX4_fits fX5_fits) {n : Nat} {S : St} (hi : Inv n S) (hn : n < 512) (hL : 6 * n + 6 ≤ L) (hk : ∀ S2, Inv (n + 1) S2 → LW L xs 1433 [some (.ref 400), some (.ref 0), some (.ref 41), some (.int (nI (6 * n)))] [] S2) : LW L xs 915 [some (.ref 400), some (.ref 0), some (.ref 41), some (.int (nI (6 * n)))] [] S := by
  obtain ⟨r, S1, S2, hx, hm, hI⟩ := hE n S (xs (6 * n + 1)) (xs (6 * n + 2)) hi hn
  refine l_aload_n (g := 5) (k := 83) (i := 1) rfl rfl rfl ?_
  refine l_aload_n (g := 5) (k := 84) (i := 0) rfl rfl rfl ?_
  refine l_iload_n (g := 5) (k := 85) (i := 3) rfl rfl rfl ?_
  refine l_iconst (g := 5) (k := 86) 1 rfl (by decide) ?_
  refine l_iadd (g := 5) (k := 87) rfl ?_
  refine l_sld (g := 5) (k := 88) (j := 6 * n + 1) rfl (nI_add (6 * n) 1) (by omega) ?_
  refine l_aload_n (g := 5) (k := 89) (i := 0) rfl rfl rfl ?_
  refine l_iload_n (g := 5) (k := 90) (i := 3) rfl rfl rfl ?_
  refine l_iconst (g := 5) (k := 91) 2 rfl (by decide) ?_
  refine l_iadd (g := 5) (k := 92) rfl ?_
  refine l_sld (g := 5) (k := 93) (j := 6 * n + 2) rfl (nI_add (6 * n) 2) (by omega) ?_
  refine l_callV (g := 5) (k := 94) [.int (xs (6 * n + 1)), .int (xs (6 * n + 2))] [] rfl (tX4_fits hx) lay_X4 rfl lc_X4_fits ml_RL_108 mi_X4_fits mv_X4_fits (by decide) (by decide) (Nat.le_of_ble_eq_true rfl) rfl ?_
  refine l_aload_n (g := 5) (k := 95) (i := 2) rfl rfl rfl ?_
  refine l_aload_n (g := 5) (k := 96) (i := 0) rfl rfl rfl ?_
  refine l_iload_n (g := 5) (k := 97) (i := 3) rfl rfl rfl ?_
  refine l_iconst (g := 5) (k := 98) 1 rfl (by decide) ?_
  refine l_iadd (g := 5) (k := 99) rfl ?_
  refine l_sld (g := 6) (k := 0) (j := 6 * n + 1) rfl (nI_add (6 * n) 1) (by omega) ?_
  refine l_aload_n (g := 6) (k := 1) (i := 0) rfl rfl rfl ?_
  refine l_iload_n (g := 6) (k := 2) (i := 3) rfl rfl rfl ?_
  refine l_iconst (g := 6) (k := 3) 2 rfl (by decide) ?_
  refine l_iadd (g := 6) (k := 4) rfl ?_
  refine l_sld (g := 6) (k := 5) (j := 6 * n + 2) rfl (nI_add (6 * n) 2) (by omega) ?_
  refine l_callV (g := 6) (k := 6) [.int (xs (6 * n + 1)), .int (xs (6 * n + 2))] [.int r] rfl (tX5_fits hm) lay_X5 rfl lc_X5_fits ml_RL_111 mi_X5_fits mv_X5_fits (by decide) (by decide) (Nat.le_of_ble_eq_true rfl) rfl ?_
  refine l_icmp_eq (g := 6) (k := 7) 1433 rfl (by decide) rfl ?_
  exact hk S2 hI
theorem lc_24 {L : Nat} {xs : Nat → Int32} {Inv : Nat → St → Prop} (hE : EQ1 Inv fX4_slips fX5_slips) {n : Nat} {S : St} (hi : Inv n S) (hn : n < 512) (hL : 6 * n + 6 ≤ L) (hk : ∀ S2, Inv (n + 1) S2 → LW L xs 1433 [some (.ref 400), some (.ref 0), some (.ref 41), some (.int (nI (6 * n)))] [] S2) : LW L xs 948 [some (.ref 400), some (.ref 0), some (.ref 41), some (.int (nI (6 * n)))] [] S := by
  obtain ⟨r, S1, S2, hx, hm, hI⟩ := hE n S (xs (6 * n + 1)) hi hn
  refine l_aload_n (g := 6) (k := 10) (i := 1) rfl rfl rfl ?_
  refine l_aload_n (g := 6) (k := 11) (i := 0) rfl rfl rfl ?_
  refine l_iload_n (g := 6) (k := 12) (i := 3) rfl rfl rfl ?_
  refine l_iconst (g := 6) (k := 13) 1 rfl (by decide) ?_
  refine l_iadd (g := 6) (k := 14) rfl ?_
  refine l_sld (g := 6) (k := 15) (j := 6 * n + 1) rfl (nI_add (6 * n) 1) (by omega) ?_
  refine l_callV (g := 6) (k := 16) [.int (xs (6 * n + 1))] [] rfl (tX4_slips hx) lay_X4 rfl lc_X4_slips ml_RL_112 mi_X4_slips mv_X4_slips (by decide) (by decide) (Nat.le_of_ble_eq_true rfl) rfl ?_
  refine l_aload_n (g := 6) (k := 17) (i := 2) rfl rfl rfl ?_
  refine l_aload_n (g := 6) (k := 18) (i := 0) rfl rfl rfl ?_
  refine l_iload_n (g := 6) (k := 19) (i := 3) rfl rfl rfl ?_
  refine l_iconst (g := 6) (k := 20) 1 rfl (by decide) ?_
  refine l_iadd (g := 6) (k := 21) rfl ?_
  refine l_sld (g := 6) (k := 22) (j := 6 * n + 1) rfl (nI_add (6 * n) 1) (by omega) ?_
  refine l_callV (g := 6) (k := 23) [.int (xs (6 * n + 1))] [.int r] rfl (tX5_slips hm) lay_X5 rfl lc_X5_slips ml_RL_115 mi_X5_slips mv_X5_slips (by decide) (by decide) (Nat.le_of_ble_eq_true rfl) rfl ?_
  refine l_icmp_eq (g := 6) (k := 24) 1433 rfl (by decide) rfl ?_
  exact hk S2 hI
theorem lc_25 {L : Nat} {xs : Nat → Int32} {Inv : Nat → St → Prop} (hE : EQ2 Inv fX4_odds fX5_odds) {n : Nat} {S : St} (hi : Inv n S) (hn : n < 512) (hL : 6 * n + 6 ≤ L) (hk : ∀ S2, Inv (n + 1) S2 → LW L xs 1433 [some (.ref 400), some (.ref 0), some (.ref 41), some (.int (nI (6 * n)))] [] S2) : LW L xs 971 [some (.ref 400), some (.ref 0), some (.ref 41), some (.int (nI (6 * n)))] [] S := by
  obtain ⟨r, S1, S2, hx, hm, hI⟩ := hE n S (xs (6 * n + 1)) (xs (6 * n + 2)) hi hn
  refine l_aload_n (g := 6) (k := 27) (i := 1) rfl rfl rfl ?_
  refine l_aload_n (g := 6) (k := 28) (i := 0) rfl rfl rfl ?_
  refine l_iload_n (g := 6) (k := 29) (i := 3) rfl rfl rfl ?_
  refine l_iconst (g := 6) (k := 30) 1 rfl (by decide) ?_
  refine l_iadd (g := 6) (k := 31) rfl ?_
  refine l_sld (g := 6) (k := 32) (j := 6 * n + 1) rfl (nI_add (6 * n) 1) (by omega) ?_
  refine l_aload_n (g := 6) (k := 33) (i := 0) rfl rfl rfl ?_
  refine l_iload_n (g := 6) (k := 34) (i := 3) rfl rfl rfl ?_
  refine l_iconst (g := 6) (k := 35) 2 rfl (by decide) ?_
  refine l_iadd (g := 6) (k := 36) rfl ?_
  refine l_sld (g := 6) (k := 37) (j := 6 * n + 2) rfl (nI_add (6 * n) 2) (by omega) ?_
  refine l_callV (g := 6) (k := 38) [.int (xs (6 * n + 1)), .int (xs (6 * n + 2))] [] rfl (tX4_odds hx) lay_X4 rfl lc_X4_odds ml_RL_116 mi_X4_odds mv_X4_odds (by decide) (by decide) (Nat.le_of_ble_eq_true rfl) rfl ?_
  refine l_aload_n (g := 6) (k := 39) (i := 2) rfl rfl rfl ?_
  refine l_aload_n (g := 6) (k := 40) (i := 0) rfl rfl rfl ?_
  refine l_iload_n (g := 6) (k := 41) (i := 3) rfl rfl rfl ?_
  refine l_iconst (g := 6) (k := 42) 1 rfl (by decide) ?_
  refine l_iadd (g := 6) (k := 43) rfl ?_
  refine l_sld (g := 6) (k := 44) (j := 6 * n + 1) rfl (nI_add (6 * n) 1) (by omega) ?_
  refine l_aload_n (g := 6) (k := 45) (i := 0) rfl rfl rfl ?_
  refine l_iload_n (g := 6) (k := 46) (i := 3) rfl rfl rfl ?_
  refine l_iconst (g := 6) (k := 47) 2 rfl (by decide) ?_
  refine l_iadd (g := 6) (k := 48) rfl ?_
  refine l_sld (g := 6) (k := 49) (j := 6 * n + 2) rfl (nI_add (6 * n) 2) (by omega) ?_
  refine l_callV (g := 6) (k := 50) [.int (xs (6 * n + 1)), .int (xs (6 * n + 2))] [.long r] rfl (tX5_odds hm) lay_X5 rfl lc_X5_odds ml_RL_120 mi_X5_odds mv_X5_odds (by decide) (by decide) (Nat.le_of_ble_eq_true rfl) rfl ?_
  refine l_lcmp (g := 6) (k := 51) rfl ?_
  refine l_if_eq (g := 6) (k := 52) 1433 rfl (by decide) (lgc_refl r) ?_
  exact hk S2 hI
theorem lc_26 {L : Nat} {xs : Nat → Int32} {Inv : Nat → St → Prop} (hE : EQ1 Inv fX4_seed fX5_seed) {n : Nat} {S : St} (hi : Inv n S) (hn : n < 512) (hL : 6 * n + 6 ≤ L) (hk : ∀ S2, Inv (n + 1) S2 → LW L xs 1433 [some (.ref 400), some (.ref 0), some (.ref 41), some (.int (nI (6 * n)))] [] S2) : LW L xs 1005 [some (.ref 400), some (.ref 0), some (.ref 41), some (.int (nI (6 * n)))] [] S := by
  obtain ⟨r, S1, S2, hx, hm, hI⟩ := hE n S (xs (6 * n + 1)) hi hn
  refine l_aload_n (g := 6) (k := 55) (i := 1) rfl rfl rfl ?_
  refine l_aload_n (g := 6) (k := 56) (i := 0) rfl rfl rfl ?_
  refine l_iload_n (g := 6) (k := 57) (i := 3) rfl rfl rfl ?_
  refine l_iconst (g := 6) (k := 58) 1 rfl (by decide) ?_
  refine l_iadd (g := 6) (k := 59) rfl ?_
  refine l_sld (g := 6) (k := 60) (j := 6 * n + 1) rfl (nI_add (6 * n) 1) (by omega) ?_
  refine l_callV (g := 6) (k := 61) [.int (xs (6 * n + 1))] [] rfl (tX4_seed hx) lay_X4 rfl lc_X4_seed ml_RL_121 mi_X4_seed mv_X4_seed (by decide) (by decide) (Nat.le_of_ble_eq_true rfl) rfl ?_
  refine l_aload_n (g := 6) (k := 62) (i := 2) rfl rfl rfl ?_
  refine l_aload_n (g := 6) (k := 63) (i := 0) rfl rfl rfl ?_
  refine l_iload_n (g := 6) (k := 64) (i := 3) rfl rfl rfl ?_
  refine l_iconst (g := 6) (k := 65) 1 rfl (by decide) ?_
  refine l_iadd (g := 6) (k := 66) rfl ?_
  refine l_sld (g := 6) (k := 67) (j := 6 * n + 1) rfl (nI_add (6 * n) 1) (by omega) ?_
  refine l_callV (g := 6) (k := 68) [.int (xs (6 * n + 1))] [.int r] rfl (tX5_seed hm) lay_X5 rfl lc_X5_seed ml_RL_124 mi_X5_seed mv_X5_seed (by decide) (by decide) (Nat.le_of_ble_eq_true rfl) rfl ?_
  refine l_icmp_eq (g := 6) (k := 69) 1433 rfl (by decide) rfl ?_
  exact hk S2 hI
theorem lc_27 {L : Nat} {xs : Nat → Int32} {Inv : Nat → St → Prop} (hE : EQ2 Inv fX4_feed fX5_feed) {n : Nat} {S : St} (hi : Inv n S) (hn : n < 512) (hL : 6 * n + 6 ≤ L) (hk : ∀ S2, Inv (n + 1) S2 → LW L xs 1433 [some (.ref 400), some (.ref 0), some (.ref 41), some (.int (nI (6 * n)))] [] S2) : LW L xs 1028 [some (.ref 400), some (.ref 0), some (.ref 41), some (.int (nI (6 * n)))] [] S := by
  obtain ⟨r, S1, S2, hx, hm, hI⟩ := hE n S (xs (6 * n + 1)) (xs (6 * n + 2)) hi hn
  refine l_aload_n (g := 6) (k := 72) (i := 1) rfl rfl rfl ?_
  refine l_aload_n (g := 6) (k := 73) (i := 0) rfl rfl rfl ?_
  refine l_iload_n (g := 6) (k := 74) (i := 3) rfl rfl rfl ?_
  refine l_iconst (g := 6) (k := 75) 1 rfl (by decide) ?_
  refine l_iadd (g := 6) (k := 76) rfl ?_
  refine l_sld (g := 6) (k := 77) (j := 6 * n + 1) rfl (nI_add (6 * n) 1) (by omega) ?_
  refine l_aload_n (g := 6) (k := 78) (i := 0) rfl rfl rfl ?_
  refine l_iload_n (g := 6) (k := 79) (i := 3) rfl rfl rfl ?_
  refine l_iconst (g := 6) (k := 80) 2 rfl (by decide) ?_
  refine l_iadd (g := 6) (k := 81) rfl ?_
  refine l_sld (g := 6) (k := 82) (j := 6 * n + 2) rfl (nI_add (6 * n) 2) (by omega) ?_
  refine l_callV (g := 6) (k := 83) [.int (xs (6 * n + 1)), .int (xs (6 * n + 2))] [] rfl (tX4_feed hx) lay_X4 rfl lc_X4_feed ml_RL_125 mi_X4_feed mv_X4_feed (by decide) (by decide) (Nat.le_of_ble_eq_true rfl) rfl ?_
  refine l_aload_n (g := 6) (k := 84) (i := 2) rfl rfl rfl ?_
  refine l_aload_n (g := 6) (k := 85) (i := 0) rfl rfl rfl ?_
  refine l_iload_n (g := 6) (k := 86) (i := 3) rfl rfl rfl ?_
  refine l_iconst (g := 6) (k := 87) 1 rfl (by decide) ?_
  refine l_iadd (g := 6) (k := 88) rfl ?_
  refine l_sld (g := 6) (k := 89) (j := 6 * n + 1) rfl (nI_add (6 * n) 1) (by omega) ?_
  refine l_aload_n (g := 6) (k := 90) (i := 0) rfl rfl rfl ?_
  refine l_iload_n (g := 6) (k := 91) (i := 3) rfl rfl rfl ?_
  refine l_iconst (g := 6) (k := 92) 2 rfl (by decide) ?_
  refine l_iadd (g := 6) (k := 93) rfl ?_
  refine l_sld (g := 6) (k := 94) (j := 6 * n + 2) rfl (nI_add (6 * n) 2) (by omega) ?_
  refine l_callV (g := 6) (k := 95) [.int (xs (6 * n + 1)), .int (xs (6 * n + 2))] [.int r] rfl (tX5_feed hm) lay_X5 rfl lc_X5_feed ml_RL_128 mi_X5_feed mv_X5_feed (by decide) (by decide) (Nat.le_of_ble_eq_true rfl) rfl ?_
  refine l_icmp_eq (g := 6) (k := 96) 1433 rfl (by decide) rfl ?_
  exact hk S2 hI
theorem lc_28 {L : Nat} {xs : Nat → Int32} {Inv : Nat → St → Prop} (hE : EQ0 Inv fX4_wipe fX5_wipe) {n : Nat} {S : St} (hi : Inv n S) (hn : n < 512) (hL : 6 * n + 6 ≤ L) (hk : ∀ S2, Inv (n + 1) S2 → LW L xs 1433 [some (.ref 400), some (.ref 0), some (.ref 41), some (.int (nI (6 * n)))] [] S2) : LW L xs 1061 [some (.ref 400), some (.ref 0), some (.ref 41), some (.int (nI (6 * n)))] [] S := by
  obtain ⟨r, S1, S2, hx, hm, hI⟩ := hE n S hi hn
  refine l_aload_n (g := 6) (k := 99) (i := 1) rfl rfl rfl ?_
  refine l_callV (g := 7) (k := 0) [] [] rfl (tX4_wipe hx) lay_X4 rfl lc_X4_wipe ml_RL_129 mi_X4_wipe mv_X4_wipe (by decide) (by decide) (Nat.le_of_ble_eq_true rfl) rfl ?_
  refine l_aload_n (g := 7) (k := 1) (i := 2) rfl rfl rfl ?_
  refine l_callV (g := 7) (k := 2) [] [.int r] rfl (tX5_wipe hm) lay_X5 rfl lc_X5_wipe ml_RL_133 mi_X5_wipe mv_X5_wipe (by decide) (by decide) (Nat.le_of_ble_eq_true rfl) rfl ?_
  refine l_icmp_eq (g := 7) (k := 3) 1433 rfl (by decide) rfl ?_
  exact hk S2 hI
theorem lc_29 {L : Nat} {xs : Nat → Int32} {Inv : Nat → St → Prop} (hE : EQ0 Inv fX4_text fX5_text) {n : Nat} {S : St} (hi : Inv n S) (hn : n < 512) (hL : 6 * n + 6 ≤ L) (hk : ∀ S2, Inv (n + 1) S2 → LW L xs 1433 [some (.ref 400), some (.ref 0), some (.ref 41), some (.int (nI (6 * n)))] [] S2) : LW L xs 1074 [some (.ref 400), some (.ref 0), some (.ref 41), some (.int (nI (6 * n)))] [] S := by
  obtain ⟨r, S1, S2, hx, hm, hI⟩ := hE n S hi hn
  refine l_aload_n (g := 7) (k := 6) (i := 1) rfl rfl rfl ?_
  refine l_callV (g := 7) (k := 7) [] [] rfl (tX4_text hx) lay_X4 rfl lc_X4_text ml_RL_134 mi_X4_text mv_X4_text (by decide) (by decide) (Nat.le_of_ble_eq_true rfl) rfl ?_
  refine l_aload_n (g := 7) (k := 8) (i := 2) rfl rfl rfl ?_
  refine l_callV (g := 7) (k := 9) [] [.int r] rfl (tX5_text hm) lay_X5 rfl lc_X5_text ml_RL_137 mi_X5_text mv_X5_text (by decide) (by decide) (Nat.le_of_ble_eq_true rfl) rfl ?_
  refine l_icmp_eq (g := 7) (k := 10) 1433 rfl (by decide) rfl ?_
  exact hk S2 hI
theorem lc_30 {L : Nat} {xs : Nat → Int32} {Inv : Nat → St → Prop} (hE : EQ2 Inv fX4_hold fX5_hold) {n : Nat} {S : St} (hi : Inv n S) (hn : n < 512) (hL : 6 * n + 6 ≤ L) (hk : ∀ S2, Inv (n + 1) S2 → LW L xs 1433 [some (.ref 400), some (.ref 0), some (.ref 41), some (.int (nI (6 * n)))] [] S2) : LW L xs 1087 [some (.ref 400), some (.ref 0), some (.ref 41), some (.int (nI (6 * n)))] [] S := by
  obtain ⟨r, S1, S2, hx, hm, hI⟩ := hE n S (xs (6 * n + 1)) (xs (6 * n + 2)) hi hn
  refine l_aload_n (g := 7) (k := 13) (i := 1) rfl rfl rfl ?_
  refine l_aload_n (g := 7) (k := 14) (i := 0) rfl rfl rfl ?_
  refine l_iload_n (g := 7) (k := 15) (i := 3) rfl rfl rfl ?_
  refine l_iconst (g := 7) (k := 16) 1 rfl (by decide) ?_
  refine l_iadd (g := 7) (k := 17) rfl ?_
  refine l_sld (g := 7) (k := 18) (j := 6 * n + 1) rfl (nI_add (6 * n) 1) (by omega) ?_
  refine l_aload_n (g := 7) (k := 19) (i := 0) rfl rfl rfl ?_
  refine l_iload_n (g := 7) (k := 20) (i := 3) rfl rfl rfl ?_
  refine l_iconst (g := 7) (k := 21) 2 rfl (by decide) ?_
  refine l_iadd (g := 7) (k := 22) rfl ?_
  refine l_sld (g := 7) (k := 23) (j := 6 * n + 2) rfl (nI_add (6 * n) 2) (by omega) ?_
  refine l_callV (g := 7) (k := 24) [.int (xs (6 * n + 1)), .int (xs (6 * n + 2))] [] rfl (tX4_hold hx) lay_X4 rfl lc_X4_hold ml_RL_138 mi_X4_hold mv_X4_hold (by decide) (by decide) (Nat.le_of_ble_eq_true rfl) rfl ?_
  refine l_aload_n (g := 7) (k := 25) (i := 2) rfl rfl rfl ?_
  refine l_aload_n (g := 7) (k := 26) (i := 0) rfl rfl rfl ?_
  refine l_iload_n (g := 7) (k := 27) (i := 3) rfl rfl rfl ?_
  refine l_iconst (g := 7) (k := 28) 1 rfl (by decide) ?_
  refine l_iadd (g := 7) (k := 29) rfl ?_
  refine l_sld (g := 7) (k := 30) (j := 6 * n + 1) rfl (nI_add (6 * n) 1) (by omega) ?_
  refine l_aload_n (g := 7) (k := 31) (i := 0) rfl rfl rfl ?_
  refine l_iload_n (g := 7) (k := 32) (i := 3) rfl rfl rfl ?_
  refine l_iconst (g := 7) (k := 33) 2 rfl (by decide) ?_
  refine l_iadd (g := 7) (k := 34) rfl ?_
  refine l_sld (g := 7) (k := 35) (j := 6 * n + 2) rfl (nI_add (6 * n) 2) (by omega) ?_
  refine l_callV (g := 7) (k := 36) [.int (xs (6 * n + 1)), .int (xs (6 * n + 2))] [.int r] rfl (tX5_hold hm) lay_X5 rfl lc_X5_hold ml_RL_141 mi_X5_hold mv_X5_hold (by decide) (by decide) (Nat.le_of_ble_eq_true rfl) rfl ?_
  refine l_icmp_eq (g := 7) (k := 37) 1433 rfl (by decide) rfl ?_
  exact hk S2 hI
theorem lc_31 {L : Nat} {xs : Nat → Int32} {Inv : Nat → St → Prop} (hE : EQ2 Inv fX4_as fX5_as) {n : Nat} {S : St} (hi : Inv n S) (hn : n < 512) (hL : 6 * n + 6 ≤ L) (hk : ∀ S2, Inv (n + 1) S2 → LW L xs 1433 [some (.ref 400), some (.ref 0), some (.ref 41), some (.int (nI (6 * n)))] [] S2) : LW L xs 1120 [some (.ref 400), some (.ref 0), some (.ref 41), some (.int (nI (6 * n)))] [] S := by
  obtain ⟨r, S1, S2, hx, hm, hI⟩ := hE n S (xs (6 * n + 1)) (xs (6 * n + 2)) hi hn
  refine l_aload_n (g := 7) (k := 40) (i := 1) rfl rfl rfl ?_
  refine l_aload_n (g := 7) (k := 41) (i := 0) rfl rfl rfl ?_
  refine l_iload_n (g := 7) (k := 42) (i := 3) rfl rfl rfl ?_
  refine l_iconst (g := 7) (k := 43) 1 rfl (by decide) ?_
  refine l_iadd (g := 7) (k := 44) rfl ?_
  refine l_sld (g := 7) (k := 45) (j := 6 * n + 1) rfl (nI_add (6 * n) 1) (by omega) ?_
  refine l_aload_n (g := 7) (k := 46) (i := 0) rfl rfl rfl ?_
  refine l_iload_n (g := 7) (k := 47) (i := 3) rfl rfl rfl ?_
  refine l_iconst (g := 7) (k := 48) 2 rfl (by decide) ?_
  refine l_iadd (g := 7) (k := 49) rfl ?_
  refine l_sld (g := 7) (k := 50) (j := 6 * n + 2) rfl (nI_add (6 * n) 2) (by omega) ?_
  refine l_callV (g := 7) (k := 51) [.int (xs (6 * n + 1)), .int (xs (6 * n + 2))] [] rfl (tX4_as hx) lay_X4 rfl lc_X4_as ml_RL_142 mi_X4_as mv_X4_as (by decide) (by decide) (Nat.le_of_ble_eq_true rfl) rfl ?_
  refine l_aload_n (g := 7) (k := 52) (i := 2) rfl rfl rfl ?_
  refine l_aload_n (g := 7) (k := 53) (i := 0) rfl rfl rfl ?_
  refine l_iload_n (g := 7) (k := 54) (i := 3) rfl rfl rfl ?_
  refine l_iconst (g := 7) (k := 55) 1 rfl (by decide) ?_
  refine l_iadd (g := 7) (k := 56) rfl ?_
  refine l_sld (g := 7) (k := 57) (j := 6 * n + 1) rfl (nI_add (6 * n) 1) (by omega) ?_
  refine l_aload_n (g := 7) (k := 58) (i := 0) rfl rfl rfl ?_
  refine l_iload_n (g := 7) (k := 59) (i := 3) rfl rfl rfl ?_
  refine l_iconst (g := 7) (k := 60) 2 rfl (by decide) ?_
  refine l_iadd (g := 7) (k := 61) rfl ?_
  refine l_sld (g := 7) (k := 62) (j := 6 * n + 2) rfl (nI_add (6 * n) 2) (by omega) ?_
  refine l_callV (g := 7) (k := 63) [.int (xs (6 * n + 1)), .int (xs (6 * n + 2))] [.int r] rfl (tX5_as hm) lay_X5 rfl lc_X5_as ml_RL_145 mi_X5_as mv_X5_as (by decide) (by decide) (Nat.le_of_ble_eq_true rfl) rfl ?_
  refine l_icmp_eq (g := 7) (k := 64) 1433 rfl (by decide) rfl ?_
  exact hk S2 hI
theorem lc_32 {L : Nat} {xs : Nat → Int32} {Inv : Nat → St → Prop} (hE : EQ3 Inv fX4_sheet fX5_sheet) {n : Nat} {S : St} (hi : Inv n S) (hn : n < 512) (hL : 6 * n + 6 ≤ L) (hk : ∀ S2, Inv (n + 1) S2 → LW L xs 1433 [some (.ref 400), some (.ref 0), some (.ref 41), some (.int (nI (6 * n)))] [] S2) : LW L xs 1153 [some (.ref 400), some (.ref 0), some (.ref 41), some (.int (nI (6 * n)))] [] S := by
  obtain ⟨r, S1, S2, hx, hm, hI⟩ := hE n S (xs (6 * n + 1)) (xs (6 * n + 2)) (xs (6 * n + 3)) hi hn
  refine l_aload_n (g := 7) (k := 67) (i := 1) rfl rfl rfl ?_
  refine l_aload_n (g := 7) (k := 68) (i := 0) rfl rfl rfl ?_
  refine l_iload_n (g := 7) (k := 69) (i := 3) rfl rfl rfl ?_
  refine l_iconst (g := 7) (k := 70) 1 rfl (by decide) ?_
  refine l_iadd (g := 7) (k := 71) rfl ?_
  refine l_sld (g := 7) (k := 72) (j := 6 * n + 1) rfl (nI_add (6 * n) 1) (by omega) ?_
  refine l_aload_n (g := 7) (k := 73) (i := 0) rfl rfl rfl ?_
  refine l_iload_n (g := 7) (k := 74) (i := 3) rfl rfl rfl ?_
  refine l_iconst (g := 7) (k := 75) 2 rfl (by decide) ?_
  refine l_iadd (g := 7) (k := 76) rfl ?_
  refine l_sld (g := 7) (k := 77) (j := 6 * n + 2) rfl (nI_add (6 * n) 2) (by omega) ?_
  refine l_aload_n (g := 7) (k := 78) (i := 0) rfl rfl rfl ?_
  refine l_iload_n (g := 7) (k := 79) (i := 3) rfl rfl rfl ?_
  refine l_iconst (g := 7) (k := 80) 3 rfl (by decide) ?_
  refine l_iadd (g := 7) (k := 81) rfl ?_
  refine l_sld (g := 7) (k := 82) (j := 6 * n + 3) rfl (nI_add (6 * n) 3) (by omega) ?_
  refine l_callV (g := 7) (k := 83) [.int (xs (6 * n + 1)), .int (xs (6 * n + 2)), .int (xs (6 * n + 3))] [] rfl (tX4_sheet hx) lay_X4 rfl lc_X4_sheet ml_RL_146 mi_X4_sheet mv_X4_sheet (by decide) (by decide) (Nat.le_of_ble_eq_true rfl) rfl ?_
  refine l_aload_n (g := 7) (k := 84) (i := 2) rfl rfl rfl ?_
  refine l_aload_n (g := 7) (k := 85) (i := 0) rfl rfl rfl ?_
  refine l_iload_n (g := 7) (k := 86) (i := 3) rfl rfl rfl ?_
  refine l_iconst (g := 7) (k := 87) 1 rfl (by decide) ?_
  refine l_iadd (g := 7) (k := 88) rfl ?_
  refine l_sld (g := 7) (k := 89) (j := 6 * n + 1) rfl (nI_add (6 * n) 1) (by omega) ?_
  refine l_aload_n (g := 7) (k := 90) (i := 0) rfl rfl rfl ?_
  refine l_iload_n (g := 7) (k := 91) (i := 3) rfl rfl rfl ?_
  refine l_iconst (g := 7) (k := 92) 2 rfl (by decide) ?_
  refine l_iadd (g := 7) (k := 93) rfl ?_
  refine l_sld (g := 7) (k := 94) (j := 6 * n + 2) rfl (nI_add (6 * n) 2) (by omega) ?_
  refine l_aload_n (g := 7) (k := 95) (i := 0) rfl rfl rfl ?_
  refine l_iload_n (g := 7) (k := 96) (i := 3) rfl rfl rfl ?_
  refine l_iconst (g := 7) (k := 97) 3 rfl (by decide) ?_
  refine l_iadd (g := 7) (k := 98) rfl ?_
  refine l_sld (g := 7) (k := 99) (j := 6 * n + 3) rfl (nI_add (6 * n) 3) (by omega) ?_
  refine l_callV (g := 8) (k := 0) [.int (xs (6 * n + 1)), .int (xs (6 * n + 2)), .int (xs (6 * n + 3))] [.int r] rfl (tX5_sheet hm) lay_X5 rfl lc_X5_sheet ml_RL_149 mi_X5_sheet mv_X5_sheet (by decide) (by decide) (Nat.le_of_ble_eq_true rfl) rfl ?_
  refine l_icmp_eq (g := 8) (k := 1) 1433 rfl (by decide) rfl ?_
  exact hk S2 hI
theorem lc_33 {L : Nat} {xs : Nat → Int32} {Inv : Nat → St → Prop} (hE : EQ3 Inv fX4_write fX5_write) {n : Nat} {S : St} (hi : Inv n S) (hn : n < 512) (hL : 6 * n + 6 ≤ L) (hk : ∀ S2, Inv (n + 1) S2 → LW L xs 1433 [some (.ref 400), some (.ref 0), some (.ref 41), some (.int (nI (6 * n)))] [] S2) : LW L xs 1196 [some (.ref 400), some (.ref 0), some (.ref 41), some (.int (nI (6 * n)))] [] S := by
  obtain ⟨r, S1, S2, hx, hm, hI⟩ := hE n S (xs (6 * n + 1)) (xs (6 * n + 2)) (xs (6 * n + 3)) hi hn
  refine l_aload_n (g := 8) (k := 4) (i := 1) rfl rfl rfl ?_
  refine l_aload_n (g := 8) (k := 5) (i := 0) rfl rfl rfl ?_
  refine l_iload_n (g := 8) (k := 6) (i := 3) rfl rfl rfl ?_
  refine l_iconst (g := 8) (k := 7) 1 rfl (by decide) ?_
  refine l_iadd (g := 8) (k := 8) rfl ?_
  refine l_sld (g := 8) (k := 9) (j := 6 * n + 1) rfl (nI_add (6 * n) 1) (by omega) ?_
  refine l_aload_n (g := 8) (k := 10) (i := 0) rfl rfl rfl ?_
  refine l_iload_n (g := 8) (k := 11) (i := 3) rfl rfl rfl ?_
  refine l_iconst (g := 8) (k := 12) 2 rfl (by decide) ?_
  refine l_iadd (g := 8) (k := 13) rfl ?_
  refine l_sld (g := 8) (k := 14) (j := 6 * n + 2) rfl (nI_add (6 * n) 2) (by omega) ?_
  refine l_aload_n (g := 8) (k := 15) (i := 0) rfl rfl rfl ?_
  refine l_iload_n (g := 8) (k := 16) (i := 3) rfl rfl rfl ?_
  refine l_iconst (g := 8) (k := 17) 3 rfl (by decide) ?_
  refine l_iadd (g := 8) (k := 18) rfl ?_
  refine l_sld (g := 8) (k := 19) (j := 6 * n + 3) rfl (nI_add (6 * n) 3) (by omega) ?_
  refine l_callV (g := 8) (k := 20) [.int (xs (6 * n + 1)), .int (xs (6 * n + 2)), .int (xs (6 * n + 3))] [] rfl (tX4_write hx) lay_X4 rfl lc_X4_write ml_RL_150 mi_X4_write mv_X4_write (by decide) (by decide) (Nat.le_of_ble_eq_true rfl) rfl ?_
  refine l_aload_n (g := 8) (k := 21) (i := 2) rfl rfl rfl ?_
  refine l_aload_n (g := 8) (k := 22) (i := 0) rfl rfl rfl ?_
  refine l_iload_n (g := 8) (k := 23) (i := 3) rfl rfl rfl ?_
  refine l_iconst (g := 8) (k := 24) 1 rfl (by decide) ?_
  refine l_iadd (g := 8) (k := 25) rfl ?_
  refine l_sld (g := 8) (k := 26) (j := 6 * n + 1) rfl (nI_add (6 * n) 1) (by omega) ?_
  refine l_aload_n (g := 8) (k := 27) (i := 0) rfl rfl rfl ?_
  refine l_iload_n (g := 8) (k := 28) (i := 3) rfl rfl rfl ?_
  refine l_iconst (g := 8) (k := 29) 2 rfl (by decide) ?_
  refine l_iadd (g := 8) (k := 30) rfl ?_
  refine l_sld (g := 8) (k := 31) (j := 6 * n + 2) rfl (nI_add (6 * n) 2) (by omega) ?_
  refine l_aload_n (g := 8) (k := 32) (i := 0) rfl rfl rfl ?_
  refine l_iload_n (g := 8) (k := 33) (i := 3) rfl rfl rfl ?_
  refine l_iconst (g := 8) (k := 34) 3 rfl (by decide) ?_
  refine l_iadd (g := 8) (k := 35) rfl ?_
  refine l_sld (g := 8) (k := 36) (j := 6 * n + 3) rfl (nI_add (6 * n) 3) (by omega) ?_
  refine l_callV (g := 8) (k := 37) [.int (xs (6 * n + 1)), .int (xs (6 * n + 2)), .int (xs (6 * n + 3))] [.int r] rfl (tX5_write hm) lay_X5 rfl lc_X5_write ml_RL_153 mi_X5_write mv_X5_write (by decide) (by decide) (Nat.le_of_ble_eq_true rfl) rfl ?_
  refine l_icmp_eq (g := 8) (k := 38) 1433 rfl (by decide) rfl ?_
  exact hk S2 hI
theorem lc_34 {L : Nat} {xs : Nat → Int32} {Inv : Nat → St → Prop} (hE : EQ5 Inv fX4_copy fX5_copy) {n : Nat} {S : St} (hi : Inv n S) (hn : n < 512) (hL : 6 * n + 6 ≤ L) (hk : ∀ S2, Inv (n + 1) S2 → LW L xs 1433 [some (.ref 400), some (.ref 0), some (.ref 41), some (.int (nI (6 * n)))] [] S2) : LW L xs 1239 [some (.ref 400), some (.ref 0), some (.ref 41), some (.int (nI (6 * n)))] [] S := by
  obtain ⟨r, S1, S2, hx, hm, hI⟩ := hE n S (xs (6 * n + 1)) (xs (6 * n + 2)) (xs (6 * n + 3)) (xs (6 * n + 4)) (xs (6 * n + 5)) hi hn
  refine l_aload_n (g := 8) (k := 41) (i := 1) rfl rfl rfl ?_
  refine l_aload_n (g := 8) (k := 42) (i := 0) rfl rfl rfl ?_
  refine l_iload_n (g := 8) (k := 43) (i := 3) rfl rfl rfl ?_
  refine l_iconst (g := 8) (k := 44) 1 rfl (by decide) ?_
  refine l_iadd (g := 8) (k := 45) rfl ?_
  refine l_sld (g := 8) (k := 46) (j := 6 * n + 1) rfl (nI_add (6 * n) 1) (by omega) ?_
  refine l_aload_n (g := 8) (k := 47) (i := 0) rfl rfl rfl ?_
  refine l_iload_n (g := 8) (k := 48) (i := 3) rfl rfl rfl ?_
  refine l_iconst (g := 8) (k := 49) 2 rfl (by decide) ?_
  refine l_iadd (g := 8) (k := 50) rfl ?_
  refine l_sld (g := 8) (k := 51) (j := 6 * n + 2) rfl (nI_add (6 * n) 2) (by omega) ?_
  refine l_aload_n (g := 8) (k := 52) (i := 0) rfl rfl rfl ?_
  refine l_iload_n (g := 8) (k := 53) (i := 3) rfl rfl rfl ?_
  refine l_iconst (g := 8) (k := 54) 3 rfl (by decide) ?_
  refine l_iadd (g := 8) (k := 55) rfl ?_
  refine l_sld (g := 8) (k := 56) (j := 6 * n + 3) rfl (nI_add (6 * n) 3) (by omega) ?_
  refine l_aload_n (g := 8) (k := 57) (i := 0) rfl rfl rfl ?_
  refine l_iload_n (g := 8) (k := 58) (i := 3) rfl rfl rfl ?_
  refine l_iconst (g := 8) (k := 59) 4 rfl (by decide) ?_
  refine l_iadd (g := 8) (k := 60) rfl ?_
  refine l_sld (g := 8) (k := 61) (j := 6 * n + 4) rfl (nI_add (6 * n) 4) (by omega) ?_
  refine l_aload_n (g := 8) (k := 62) (i := 0) rfl rfl rfl ?_
  refine l_iload_n (g := 8) (k := 63) (i := 3) rfl rfl rfl ?_
  refine l_iconst (g := 8) (k := 64) 5 rfl (by decide) ?_
  refine l_iadd (g := 8) (k := 65) rfl ?_
  refine l_sld (g := 8) (k := 66) (j := 6 * n + 5) rfl (nI_add (6 * n) 5) (by omega) ?_
  refine l_callV (g := 8) (k := 67) [.int (xs (6 * n + 1)), .int (xs (6 * n + 2)), .int (xs (6 * n + 3)), .int (xs (6 * n + 4)), .int (xs (6 * n + 5))] [] rfl (tX4_copy hx) lay_X4 rfl lc_X4_copy ml_RL_154 mi_X4_copy mv_X4_copy (by decide) (by decide) (Nat.le_of_ble_eq_true rfl) rfl ?_
  refine l_aload_n (g := 8) (k := 68) (i := 2) rfl rfl rfl ?_
  refine l_aload_n (g := 8) (k := 69) (i := 0) rfl rfl rfl ?_
  refine l_iload_n (g := 8) (k := 70) (i := 3) rfl rfl rfl ?_
  refine l_iconst (g := 8) (k := 71) 1 rfl (by decide) ?_
  refine l_iadd (g := 8) (k := 72) rfl ?_
  refine l_sld (g := 8) (k := 73) (j := 6 * n + 1) rfl (nI_add (6 * n) 1) (by omega) ?_
  refine l_aload_n (g := 8) (k := 74) (i := 0) rfl rfl rfl ?_
  refine l_iload_n (g := 8) (k := 75) (i := 3) rfl rfl rfl ?_
  refine l_iconst (g := 8) (k := 76) 2 rfl (by decide) ?_
  refine l_iadd (g := 8) (k := 77) rfl ?_
  refine l_sld (g := 8) (k := 78) (j := 6 * n + 2) rfl (nI_add (6 * n) 2) (by omega) ?_
  refine l_aload_n (g := 8) (k := 79) (i := 0) rfl rfl rfl ?_
  refine l_iload_n (g := 8) (k := 80) (i := 3) rfl rfl rfl ?_
  refine l_iconst (g := 8) (k := 81) 3 rfl (by decide) ?_
  refine l_iadd (g := 8) (k := 82) rfl ?_
  refine l_sld (g := 8) (k := 83) (j := 6 * n + 3) rfl (nI_add (6 * n) 3) (by omega) ?_
  refine l_aload_n (g := 8) (k := 84) (i := 0) rfl rfl rfl ?_
  refine l_iload_n (g := 8) (k := 85) (i := 3) rfl rfl rfl ?_
  refine l_iconst (g := 8) (k := 86) 4 rfl (by decide) ?_
  refine l_iadd (g := 8) (k := 87) rfl ?_
  refine l_sld (g := 8) (k := 88) (j := 6 * n + 4) rfl (nI_add (6 * n) 4) (by omega) ?_
  refine l_aload_n (g := 8) (k := 89) (i := 0) rfl rfl rfl ?_
  refine l_iload_n (g := 8) (k := 90) (i := 3) rfl rfl rfl ?_
  refine l_iconst (g := 8) (k := 91) 5 rfl (by decide) ?_
  refine l_iadd (g := 8) (k := 92) rfl ?_
  refine l_sld (g := 8) (k := 93) (j := 6 * n + 5) rfl (nI_add (6 * n) 5) (by omega) ?_
  refine l_callV (g := 8) (k := 94) [.int (xs (6 * n + 1)), .int (xs (6 * n + 2)), .int (xs (6 * n + 3)), .int (xs (6 * n + 4)), .int (xs (6 * n + 5))] [.int r] rfl (tX5_copy hm) lay_X5 rfl lc_X5_copy ml_RL_158 mi_X5_copy mv_X5_copy (by decide) (by decide) (Nat.le_of_ble_eq_true rfl) rfl ?_
  refine l_icmp_eq (g := 8) (k := 95) 1433 rfl (by decide) rfl ?_
  exact hk S2 hI
theorem lc_35 {L : Nat} {xs : Nat → Int32} {Inv : Nat → St → Prop} (hE : EQ1 Inv fX4_load fX5_load) {n : Nat} {S : St} (hi : Inv n S) (hn : n < 512) (hL : 6 * n + 6 ≤ L) (hk : ∀ S2, Inv (n + 1) S2 → LW L xs 1433 [some (.ref 400), some (.ref 0), some (.ref 41), some (.int (nI (6 * n)))] [] S2) : LW L xs 1302 [some (.ref 400), some (.ref 0), some (.ref 41), some (.int (nI (6 * n)))] [] S := by
  obtain ⟨r, S1, S2, hx, hm, hI⟩ := hE n S (xs (6 * n + 1)) hi hn
  refine l_aload_n (g := 8) (k := 98) (i := 1) rfl rfl rfl ?_
  refine l_aload_n (g := 8) (k := 99) (i := 0) rfl rfl rfl ?_
  refine l_iload_n (g := 9) (k := 0) (i := 3) rfl rfl rfl ?_
  refine l_iconst (g := 9) (k := 1) 1 rfl (by decide) ?_
  refine l_iadd (g := 9) (k := 2) rfl ?_
  refine l_sld (g := 9) (k := 3) (j := 6 * n + 1) rfl (nI_add (6 * n) 1) (by omega) ?_
  refine l_callV (g := 9) (k := 4) [.int (xs (6 * n + 1))] [] rfl (tX4_load hx) lay_X4 rfl lc_X4_load ml_RL_159 mi_X4_load mv_X4_load (by decide) (by decide) (Nat.le_of_ble_eq_true rfl) rfl ?_
  refine l_aload_n (g := 9) (k := 5) (i := 2) rfl rfl rfl ?_
  refine l_aload_n (g := 9) (k := 6) (i := 0) rfl rfl rfl ?_
  refine l_iload_n (g := 9) (k := 7) (i := 3) rfl rfl rfl ?_
  refine l_iconst (g := 9) (k := 8) 1 rfl (by decide) ?_
  refine l_iadd (g := 9) (k := 9) rfl ?_
  refine l_sld (g := 9) (k := 10) (j := 6 * n + 1) rfl (nI_add (6 * n) 1) (by omega) ?_
  refine l_callV (g := 9) (k := 11) [.int (xs (6 * n + 1))] [.int r] rfl (tX5_load hm) lay_X5 rfl lc_X5_load ml_RL_162 mi_X5_load mv_X5_load (by decide) (by decide) (Nat.le_of_ble_eq_true rfl) rfl ?_
  refine l_icmp_eq (g := 9) (k := 12) 1433 rfl (by decide) rfl ?_
  exact hk S2 hI
theorem lc_36 {L : Nat} {xs : Nat → Int32} {Inv : Nat → St → Prop} (hE : EQ1 Inv fX4_judge fX5_judge) {n : Nat} {S : St} (hi : Inv n S) (hn : n < 512) (hL : 6 * n + 6 ≤ L) (hk : ∀ S2, Inv (n + 1) S2 → LW L xs 1433 [some (.ref 400), some (.ref 0), some (.ref 41), some (.int (nI (6 * n)))] [] S2) : LW L xs 1325 [some (.ref 400), some (.ref 0), some (.ref 41), some (.int (nI (6 * n)))] [] S := by
  obtain ⟨r, S1, S2, hx, hm, hI⟩ := hE n S (xs (6 * n + 1)) hi hn
  refine l_aload_n (g := 9) (k := 15) (i := 1) rfl rfl rfl ?_
  refine l_aload_n (g := 9) (k := 16) (i := 0) rfl rfl rfl ?_
  refine l_iload_n (g := 9) (k := 17) (i := 3) rfl rfl rfl ?_
  refine l_iconst (g := 9) (k := 18) 1 rfl (by decide) ?_
  refine l_iadd (g := 9) (k := 19) rfl ?_
  refine l_sld (g := 9) (k := 20) (j := 6 * n + 1) rfl (nI_add (6 * n) 1) (by omega) ?_
  refine l_callV (g := 9) (k := 21) [.int (xs (6 * n + 1))] [] rfl (tX4_judge hx) lay_X4 rfl lc_X4_judge ml_RL_163 mi_X4_judge mv_X4_judge (by decide) (by decide) (Nat.le_of_ble_eq_true rfl) rfl ?_
  refine l_aload_n (g := 9) (k := 22) (i := 2) rfl rfl rfl ?_
  refine l_aload_n (g := 9) (k := 23) (i := 0) rfl rfl rfl ?_
  refine l_iload_n (g := 9) (k := 24) (i := 3) rfl rfl rfl ?_
  refine l_iconst (g := 9) (k := 25) 1 rfl (by decide) ?_
  refine l_iadd (g := 9) (k := 26) rfl ?_
  refine l_sld (g := 9) (k := 27) (j := 6 * n + 1) rfl (nI_add (6 * n) 1) (by omega) ?_
  refine l_callV (g := 9) (k := 28) [.int (xs (6 * n + 1))] [.int r] rfl (tX5_judge hm) lay_X5 rfl lc_X5_judge ml_RL_166 mi_X5_judge mv_X5_judge (by decide) (by decide) (Nat.le_of_ble_eq_true rfl) rfl ?_
  refine l_icmp_eq (g := 9) (k := 29) 1433 rfl (by decide) rfl ?_
  exact hk S2 hI
theorem lc_37 {L : Nat} {xs : Nat → Int32} {Inv : Nat → St → Prop} (hE : EQ0 Inv fX4_image fX5_image) {n : Nat} {S : St} (hi : Inv n S) (hn : n < 512) (hL : 6 * n + 6 ≤ L) (hk : ∀ S2, Inv (n + 1) S2 → LW L xs 1433 [some (.ref 400), some (.ref 0), some (.ref 41), some (.int (nI (6 * n)))] [] S2) : LW L xs 1348 [some (.ref 400), some (.ref 0), some (.ref 41), some (.int (nI (6 * n)))] [] S := by
  obtain ⟨r, S1, S2, hx, hm, hI⟩ := hE n S hi hn
  refine l_aload_n (g := 9) (k := 32) (i := 1) rfl rfl rfl ?_
  refine l_callV (g := 9) (k := 33) [] [] rfl (tX4_image hx) lay_X4 rfl lc_X4_image ml_RL_167 mi_X4_image mv_X4_image (by decide) (by decide) (Nat.le_of_ble_eq_true rfl) rfl ?_
  refine l_aload_n (g := 9) (k := 34) (i := 2) rfl rfl rfl ?_
  refine l_callV (g := 9) (k := 35) [] [.int r] rfl (tX5_image hm) lay_X5 rfl lc_X5_image ml_RL_170 mi_X5_image mv_X5_image (by decide) (by decide) (Nat.le_of_ble_eq_true rfl) rfl ?_
  refine l_icmp_eq (g := 9) (k := 36) 1433 rfl (by decide) rfl ?_
  exact hk S2 hI
theorem lc_38 {L : Nat} {xs : Nat → Int32} {Inv : Nat → St → Prop} (hE : EQ0 Inv fX4_undo fX5_undo) {n : Nat} {S : St} (hi : Inv n S) (hn : n < 512) (hL : 6 * n + 6 ≤ L) (hk : ∀ S2, Inv (n + 1) S2 → LW L xs 1433 [some (.ref 400), some (.ref 0), some (.ref 41), some (.int (nI (6 * n)))] [] S2) : LW L xs 1361 [some (.ref 400), some (.ref 0), some (.ref 41), some (.int (nI (6 * n)))] [] S := by
  obtain ⟨r, S1, S2, hx, hm, hI⟩ := hE n S hi hn
  refine l_aload_n (g := 9) (k := 39) (i := 1) rfl rfl rfl ?_
  refine l_callV (g := 9) (k := 40) [] [] rfl (tX4_undo hx) lay_X4 rfl lc_X4_undo ml_RL_171 mi_X4_undo mv_X4_undo (by decide) (by decide) (Nat.le_of_ble_eq_true rfl) rfl ?_
  refine l_aload_n (g := 9) (k := 41) (i := 2) rfl rfl rfl ?_
  refine l_callV (g := 9) (k := 42) [] [.int r] rfl (tX5_undo hm) lay_X5 rfl lc_X5_undo ml_RL_174 mi_X5_undo mv_X5_undo (by decide) (by decide) (Nat.le_of_ble_eq_true rfl) rfl ?_
  refine l_icmp_eq (g := 9) (k := 43) 1433 rfl (by decide) rfl ?_
  exact hk S2 hI
theorem lc_39 {L : Nat} {xs : Nat → Int32} {Inv : Nat → St → Prop} (hE : EQ0 Inv fX4_tear fX5_tear) {n : Nat} {S : St} (hi : Inv n S) (hn : n < 512) (hL : 6 * n + 6 ≤ L) (hk : ∀ S2, Inv (n + 1) S2 → LW L xs 1433 [some (.ref 400), some (.ref 0), some (.ref 41), some (.int (nI (6 * n)))] [] S2) : LW L xs 1374 [some (.ref 400), some (.ref 0), some (.ref 41), some (.int (nI (6 * n)))] [] S := by
  obtain ⟨r, S1, S2, hx, hm, hI⟩ := hE n S hi hn
  refine l_aload_n (g := 9) (k := 46) (i := 1) rfl rfl rfl ?_
  refine l_callV (g := 9) (k := 47) [] [] rfl (tX4_tear hx) lay_X4 rfl lc_X4_tear ml_RL_175 mi_X4_tear mv_X4_tear (by decide) (by decide) (Nat.le_of_ble_eq_true rfl) rfl ?_
  refine l_aload_n (g := 9) (k := 48) (i := 2) rfl rfl rfl ?_
  refine l_callV (g := 9) (k := 49) [] [.int r] rfl (tX5_tear hm) lay_X5 rfl lc_X5_tear ml_RL_178 mi_X5_tear mv_X5_tear (by decide) (by decide) (Nat.le_of_ble_eq_true rfl) rfl ?_
  refine l_icmp_eq (g := 9) (k := 50) 1433 rfl (by decide) rfl ?_
  exact hk S2 hI
theorem lc_40 {L : Nat} {xs : Nat → Int32} {Inv : Nat → St → Prop} (hE : EQ1 Inv fX4_count fX5_count) {n : Nat} {S : St} (hi : Inv n S) (hn : n < 512) (hL : 6 * n + 6 ≤ L) (hk : ∀ S2, Inv (n + 1) S2 → LW L xs 1433 [some (.ref 400), some (.ref 0), some (.ref 41), some (.int (nI (6 * n)))] [] S2) : LW L xs 1387 [some (.ref 400), some (.ref 0), some (.ref 41), some (.int (nI (6 * n)))] [] S := by
  obtain ⟨r, S1, S2, hx, hm, hI⟩ := hE n S (xs (6 * n + 1)) hi hn
  refine l_aload_n (g := 9) (k := 53) (i := 1) rfl rfl rfl ?_
  refine l_aload_n (g := 9) (k := 54) (i := 0) rfl rfl rfl ?_
  refine l_iload_n (g := 9) (k := 55) (i := 3) rfl rfl rfl ?_
  refine l_iconst (g := 9) (k := 56) 1 rfl (by decide) ?_
  refine l_iadd (g := 9) (k := 57) rfl ?_
  refine l_sld (g := 9) (k := 58) (j := 6 * n + 1) rfl (nI_add (6 * n) 1) (by omega) ?_
  refine l_callV (g := 9) (k := 59) [.int (xs (6 * n + 1))] [] rfl (tX4_count hx) lay_X4 rfl lc_X4_count ml_RL_179 mi_X4_count mv_X4_count (by decide) (by decide) (Nat.le_of_ble_eq_true rfl) rfl ?_
  refine l_aload_n (g := 9) (k := 60) (i := 2) rfl rfl rfl ?_
  refine l_aload_n (g := 9) (k := 61) (i := 0) rfl rfl rfl ?_
  refine l_iload_n (g := 9) (k := 62) (i := 3) rfl rfl rfl ?_
  refine l_iconst (g := 9) (k := 63) 1 rfl (by decide) ?_
  refine l_iadd (g := 9) (k := 64) rfl ?_
  refine l_sld (g := 9) (k := 65) (j := 6 * n + 1) rfl (nI_add (6 * n) 1) (by omega) ?_
  refine l_callV (g := 9) (k := 66) [.int (xs (6 * n + 1))] [.int r] rfl (tX5_count hm) lay_X5 rfl lc_X5_count ml_RL_182 mi_X5_count mv_X5_count (by decide) (by decide) (Nat.le_of_ble_eq_true rfl) rfl ?_
  refine l_icmp_eq (g := 9) (k := 67) 1433 rfl (by decide) rfl ?_
  exact hk S2 hI
theorem lc_41 {L : Nat} {xs : Nat → Int32} {Inv : Nat → St → Prop} (hE : EQ1 Inv fX4_status fX5_status) {n : Nat} {S : St} (hi : Inv n S) (hn : n < 512) (hL : 6 * n + 6 ≤ L) (hk : ∀ S2, Inv (n + 1) S2 → LW L xs 1433 [some (.ref 400), some (.ref 0), some (.ref 41), some (.int (nI (6 * n)))] [] S2) : LW L xs 1410 [some (.ref 400), some (.ref 0), some (.ref 41), some (.int (nI (6 * n)))] [] S := by
  obtain ⟨r, S1, S2, hx, hm, hI⟩ := hE n S (xs (6 * n + 1)) hi hn
  refine l_aload_n (g := 9) (k := 70) (i := 1) rfl rfl rfl ?_
  refine l_aload_n (g := 9) (k := 71) (i := 0) rfl rfl rfl ?_
  refine l_iload_n (g := 9) (k := 72) (i := 3) rfl rfl rfl ?_
  refine l_iconst (g := 9) (k := 73) 1 rfl (by decide) ?_
  refine l_iadd (g := 9) (k := 74) rfl ?_
  refine l_sld (g := 9) (k := 75) (j := 6 * n + 1) rfl (nI_add (6 * n) 1) (by omega) ?_
  refine l_callV (g := 9) (k := 76) [.int (xs (6 * n + 1))] [] rfl (tX4_status hx) lay_X4 rfl lc_X4_status ml_RL_183 mi_X4_status mv_X4_status (by decide) (by decide) (Nat.le_of_ble_eq_true rfl) rfl ?_
  refine l_aload_n (g := 9) (k := 77) (i := 2) rfl rfl rfl ?_
  refine l_aload_n (g := 9) (k := 78) (i := 0) rfl rfl rfl ?_
  refine l_iload_n (g := 9) (k := 79) (i := 3) rfl rfl rfl ?_
  refine l_iconst (g := 9) (k := 80) 1 rfl (by decide) ?_
  refine l_iadd (g := 9) (k := 81) rfl ?_
  refine l_sld (g := 9) (k := 82) (j := 6 * n + 1) rfl (nI_add (6 * n) 1) (by omega) ?_
  refine l_callV (g := 9) (k := 83) [.int (xs (6 * n + 1))] [.int r] rfl (tX5_status hm) lay_X5 rfl lc_X5_status ml_RL_186 mi_X5_status mv_X5_status (by decide) (by decide) (Nat.le_of_ble_eq_true rfl) rfl ?_
  refine l_icmp_eq (g := 9) (k := 84) 1433 rfl (by decide) rfl ?_
  exact hk S2 hI
def ALL (Inv : Nat → St → Prop) : Prop := EQ2 Inv fX4_grass fX5_grass ∧ EQ2 Inv fX4_ledge fX5_ledge ∧ EQ2 Inv fX4_set fX5_set ∧ EQ2 Inv fX4_goat fX5_goat ∧ EQ2 Inv fX4_of fX5_of ∧ EQ3 Inv fX4_change fX5_change ∧ EQ1 Inv fX4_birth fX5_birth ∧ EQ1 Inv fX4_ask fX5_ask ∧ EQ1 Inv fX4_go fX5_go ∧ EQ1 Inv fX4_now fX5_now ∧ EQ1 Inv fX4_who fX5_who ∧ EQ3 Inv fX4_ahead fX5_ahead ∧ EQ2 Inv fX4_learns fX5_learns ∧ EQ1 Inv fX4_lost fX5_lost ∧ EQ2 Inv fX4_meet fX5_meet ∧ EQ2 Inv fX4_reach fX5_reach ∧ EQ2 Inv fX4_put fX5_put ∧ EQ2 Inv fX4_kindFor fX5_kindFor ∧ EQ2 Inv fX4_growsFor fX5_growsFor ∧ EQ1 Inv fX4_cover fX5_cover ∧ EQ1 Inv fX4_price fX5_price ∧ EQ2 Inv fX4_censor fX5_censor ∧ EQ2 Inv fX4_kinds fX5_kinds ∧ EQ2 Inv fX4_fits fX5_fits ∧ EQ1 Inv fX4_slips fX5_slips ∧ EQ2 Inv fX4_odds fX5_odds ∧ EQ1 Inv fX4_seed fX5_seed ∧ EQ2 Inv fX4_feed fX5_feed ∧ EQ0 Inv fX4_wipe fX5_wipe ∧ EQ0 Inv fX4_text fX5_text ∧ EQ2 Inv fX4_hold fX5_hold ∧ EQ2 Inv fX4_as fX5_as ∧ EQ3 Inv fX4_sheet fX5_sheet ∧ EQ3 Inv fX4_write fX5_write ∧ EQ5 Inv fX4_copy fX5_copy ∧ EQ1 Inv fX4_load fX5_load ∧ EQ1 Inv fX4_judge fX5_judge ∧ EQ0 Inv fX4_image fX5_image ∧ EQ0 Inv fX4_undo fX5_undo ∧ EQ0 Inv fX4_tear fX5_tear ∧ EQ1 Inv fX4_count fX5_count ∧ EQ1 Inv fX4_status fX5_status
theorem law_loop {L : Nat} {xs : Nat → Int32} (hL : L ≤ 3072) {Inv : Nat → St → Prop} (hA : ALL Inv) (hstay : ∀ n S, Inv n S → Inv (n + 1) S) : ∀ (f n : Nat) (S : St), 513 ≤ n + f → n ≤ 512 → Inv n S → LW L xs 18 [some (.ref 400), some (.ref 0), some (.ref 41), some (.int (nI (6 * n)))] [] S := by
  obtain ⟨e0, e1, e2, e3, e4, e5, e6, e7, e8, e9, e10, e11, e12, e13, e14, e15, e16, e17, e18, e19, e20, e21, e22, e23, e24, e25, e26, e27, e28, e29, e30, e31, e32, e33, e34, e35, e36, e37, e38, e39, e40, e41⟩ := hA
  intro f
  induction f with
  | zero => intro n S h1 h2; omega
  | succ f ih =>
    intro n S h1 h2 hI
    refine l_iload_n (g := 0) (k := 10) (i := 3) rfl rfl rfl ?_
    refine l_aload_n (g := 0) (k := 11) (i := 0) rfl rfl rfl ?_
    refine l_slen (g := 0) (k := 12) rfl ?_
    refine l_bipush (g := 0) (k := 13) 6 rfl (by decide) ?_
    refine l_isub (g := 0) (k := 14) rfl ?_
    refine l_icmp_gt (g := 0) (k := 15) 1439 rfl (by decide) (fun _ => ?_) (fun hc => ?_)
    · refine l_iconst (g := 9) (k := 89) 1 rfl (by decide) ?_
      exact l_ret (g := 9) (k := 90) rfl
    · have h6 : 6 * n + 6 ≤ L := by
        rcases Nat.lt_or_ge L (6 * n + 6) with q | q
        · exfalso
          apply hc
          rw [Int32.lt_iff_toInt_lt, show (6 : Int32) = nI 6 from rfl, pk_sub_toInt (by omega) (by omega), nI_toInt (by omega)]
          omega
        · exact q
      have hn : n < 512 := by omega
      have hk : ∀ S2, Inv (n + 1) S2 → LW L xs 1433 [some (.ref 400), some (.ref 0), some (.ref 41), some (.int (nI (6 * n)))] [] S2 := by
        intro S2 hI2
        refine l_iinc (g := 9) (k := 87) (nI (6 * (n + 1))) [some (.ref 400), some (.ref 0), some (.ref 41), some (.int (nI (6 * (n + 1))))] rfl rfl (nI_add (6 * n) 6) rfl (by decide) rfl ?_
        refine l_goto (g := 9) (k := 88) 18 rfl (by decide) ?_
        exact ih (n + 1) S2 (by omega) (by omega) hI2
      refine l_aload_n (g := 0) (k := 16) (i := 0) rfl rfl rfl ?_
      refine l_iload_n (g := 0) (k := 17) (i := 3) rfl rfl rfl ?_
      refine l_sld (g := 0) (k := 18) (j := 6 * n) rfl rfl (by omega) ?_
      refine l_bipush (g := 0) (k := 19) 63 rfl (by decide) ?_
      refine l_iand (g := 0) (k := 20) rfl ?_
      obtain ⟨v, hv, ev⟩ := pk_andE (xs (6 * n)) (m := 63) 6 (by decide)
      rw [ev]
      rcases (show v = 0 ∨ v = 1 ∨ v = 2 ∨ v = 3 ∨ v = 4 ∨ v = 5 ∨ v = 6 ∨ v = 7 ∨ v = 8 ∨ v = 9 ∨ v = 10 ∨ v = 11 ∨ v = 12 ∨ v = 13 ∨ v = 14 ∨ v = 15 ∨ v = 16 ∨ v = 17 ∨ v = 18 ∨ v = 19 ∨ v = 20 ∨ v = 21 ∨ v = 22 ∨ v = 23 ∨ v = 24 ∨ v = 25 ∨ v = 26 ∨ v = 27 ∨ v = 28 ∨ v = 29 ∨ v = 30 ∨ v = 31 ∨ v = 32 ∨ v = 33 ∨ v = 34 ∨ v = 35 ∨ v = 36 ∨ v = 37 ∨ v = 38 ∨ v = 39 ∨ v = 40 ∨ v = 41 ∨ 42 ≤ v by omega) with rfl | rfl | rfl | rfl | rfl | rfl | rfl | rfl | rfl | rfl | rfl | rfl | rfl | rfl | rfl | rfl | rfl | rfl | rfl | rfl | rfl | rfl | rfl | rfl | rfl | rfl | rfl | rfl | rfl | rfl | rfl | rfl | rfl | rfl | rfl | rfl | rfl | rfl | rfl | rfl | rfl | rfl | hv2
      · refine l_tableIn (g := 0) (k := 21) (off := 183) 216 rfl (by decide) (by decide) (by decide) (by decide) ?_
        exact lc_0 e0 hI hn h6 hk
      · refine l_tableIn (g := 0) (k := 21) (off := 216) 249 rfl (by decide) (by decide) (by decide) (by decide) ?_
        exact lc_1 e1 hI hn h6 hk
      · refine l_tableIn (g := 0) (k := 21) (off := 249) 282 rfl (by decide) (by decide) (by decide) (by decide) ?_
        exact lc_2 e2 hI hn h6 hk
      · refine l_tableIn (g := 0) (k := 21) (off := 282) 315 rfl (by decide) (by decide) (by decide) (by decide) ?_
        exact lc_3 e3 hI hn h6 hk
      · refine l_tableIn (g := 0) (k := 21) (off := 315) 348 rfl (by decide) (by decide) (by decide) (by decide) ?_
        exact lc_4 e4 hI hn h6 hk
      · refine l_tableIn (g := 0) (k := 21) (off := 348) 381 rfl (by decide) (by decide) (by decide) (by decide) ?_
        exact lc_5 e5 hI hn h6 hk
      · refine l_tableIn (g := 0) (k := 21) (off := 391) 424 rfl (by decide) (by decide) (by decide) (by decide) ?_
        exact lc_6 e6 hI hn h6 hk
      · refine l_tableIn (g := 0) (k := 21) (off := 414) 447 rfl (by decide) (by decide) (by decide) (by decide) ?_
        exact lc_7 e7 hI hn h6 hk
      · refine l_tableIn (g := 0) (k := 21) (off := 437) 470 rfl (by decide) (by decide) (by decide) (by decide) ?_
        exact lc_8 e8 hI hn h6 hk
      · refine l_tableIn (g := 0) (k := 21) (off := 460) 493 rfl (by decide) (by decide) (by decide) (by decide) ?_
        exact lc_9 e9 hI hn h6 hk
      · refine l_tableIn (g := 0) (k := 21) (off := 483) 516 rfl (by decide) (by decide) (by decide) (by decide) ?_
        exact lc_10 e10 hI hn h6 hk
      · refine l_tableIn (g := 0) (k := 21) (off := 506) 539 rfl (by decide) (by decide) (by decide) (by decide) ?_
        exact lc_11 e11 hI hn h6 hk
      · refine l_tableIn (g := 0) (k := 21) (off := 549) 582 rfl (by decide) (by decide) (by decide) (by decide) ?_
        exact lc_12 e12 hI hn h6 hk
      · refine l_tableIn (g := 0) (k := 21) (off := 582) 615 rfl (by decide) (by decide) (by decide) (by decide) ?_
        exact lc_13 e13 hI hn h6 hk
      · refine l_tableIn (g := 0) (k := 21) (off := 605) 638 rfl (by decide) (by decide) (by decide) (by decide) ?_
        exact lc_14 e14 hI hn h6 hk
      · refine l_tableIn (g := 0) (k := 21) (off := 638) 671 rfl (by decide) (by decide) (by decide) (by decide) ?_
        exact lc_15 e15 hI hn h6 hk
      · refine l_tableIn (g := 0) (k := 21) (off := 671) 704 rfl (by decide) (by decide) (by decide) (by decide) ?_
        exact lc_16 e16 hI hn h6 hk
      · refine l_tableIn (g := 0) (k := 21) (off := 704) 737 rfl (by decide) (by decide) (by decide) (by decide) ?_
        exact lc_17 e17 hI hn h6 hk
      · refine l_tableIn (g := 0) (k := 21) (off := 737) 770 rfl (by decide) (by decide) (by decide) (by decide) ?_
        exact lc_18 e18 hI hn h6 hk
      · refine l_tableIn (g := 0) (k := 21) (off := 770) 803 rfl (by decide) (by decide) (by decide) (by decide) ?_
        exact lc_19 e19 hI hn h6 hk
      · refine l_tableIn (g := 0) (k := 21) (off := 793) 826 rfl (by decide) (by decide) (by decide) (by decide) ?_
        exact lc_20 e20 hI hn h6 hk
      · refine l_tableIn (g := 0) (k := 21) (off := 816) 849 rfl (by decide) (by decide) (by decide) (by decide) ?_
        exact lc_21 e21 hI hn h6 hk
      · refine l_tableIn (g := 0) (k := 21) (off := 849) 882 rfl (by decide) (by decide) (by decide) (by decide) ?_
        exact lc_22 e22 hI hn h6 hk
      · refine l_tableIn (g := 0) (k := 21) (off := 882) 915 rfl (by decide) (by decide) (by decide) (by decide) ?_
        exact lc_23 e23 hI hn h6 hk
      · refine l_tableIn (g := 0) (k := 21) (off := 915) 948 rfl (by decide) (by decide) (by decide) (by decide) ?_
        exact lc_24 e24 hI hn h6 hk
      · refine l_tableIn (g := 0) (k := 21) (off := 938) 971 rfl (by decide) (by decide) (by decide) (by decide) ?_
        exact lc_25 e25 hI hn h6 hk
      · refine l_tableIn (g := 0) (k := 21) (off := 972) 1005 rfl (by decide) (by decide) (by decide) (by decide) ?_
        exact lc_26 e26 hI hn h6 hk
      · refine l_tableIn (g := 0) (k := 21) (off := 995) 1028 rfl (by decide) (by decide) (by decide) (by decide) ?_
        exact lc_27 e27 hI hn h6 hk
      · refine l_tableIn (g := 0) (k := 21) (off := 1028) 1061 rfl (by decide) (by decide) (by decide) (by decide) ?_
        exact lc_28 e28 hI hn h6 hk
      · refine l_tableIn (g := 0) (k := 21) (off := 1041) 1074 rfl (by decide) (by decide) (by decide) (by decide) ?_
        exact lc_29 e29 hI hn h6 hk
      · refine l_tableIn (g := 0) (k := 21) (off := 1054) 1087 rfl (by decide) (by decide) (by decide) (by decide) ?_
        exact lc_30 e30 hI hn h6 hk
      · refine l_tableIn (g := 0) (k := 21) (off := 1087) 1120 rfl (by decide) (by decide) (by decide) (by decide) ?_
        exact lc_31 e31 hI hn h6 hk
      · refine l_tableIn (g := 0) (k := 21) (off := 1120) 1153 rfl (by decide) (by decide) (by decide) (by decide) ?_
        exact lc_32 e32 hI hn h6 hk
      · refine l_tableIn (g := 0) (k := 21) (off := 1163) 1196 rfl (by decide) (by decide) (by decide) (by decide) ?_
        exact lc_33 e33 hI hn h6 hk
      · refine l_tableIn (g := 0) (k := 21) (off := 1206) 1239 rfl (by decide) (by decide) (by decide) (by decide) ?_
        exact lc_34 e34 hI hn h6 hk
      · refine l_tableIn (g := 0) (k := 21) (off := 1269) 1302 rfl (by decide) (by decide) (by decide) (by decide) ?_
        exact lc_35 e35 hI hn h6 hk
      · refine l_tableIn (g := 0) (k := 21) (off := 1292) 1325 rfl (by decide) (by decide) (by decide) (by decide) ?_
        exact lc_36 e36 hI hn h6 hk
      · refine l_tableIn (g := 0) (k := 21) (off := 1315) 1348 rfl (by decide) (by decide) (by decide) (by decide) ?_
        exact lc_37 e37 hI hn h6 hk
      · refine l_tableIn (g := 0) (k := 21) (off := 1328) 1361 rfl (by decide) (by decide) (by decide) (by decide) ?_
        exact lc_38 e38 hI hn h6 hk
      · refine l_tableIn (g := 0) (k := 21) (off := 1341) 1374 rfl (by decide) (by decide) (by decide) (by decide) ?_
        exact lc_39 e39 hI hn h6 hk
      · refine l_tableIn (g := 0) (k := 21) (off := 1354) 1387 rfl (by decide) (by decide) (by decide) (by decide) ?_
        exact lc_40 e40 hI hn h6 hk
      · refine l_tableIn (g := 0) (k := 21) (off := 1377) 1410 rfl (by decide) (by decide) (by decide) (by decide) ?_
        exact lc_41 e41 hI hn h6 hk
      · refine l_tableOut (g := 0) (k := 21) 1433 rfl (Or.inr (by rw [nI_toInt (by omega)]; omega)) (by decide) ?_
        exact hk S (hstay n S hI)
