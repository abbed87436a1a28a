/-! THE LAYOUT: where each part of the two objects lies -/
def RefOk (r : Nat → Nat → Option Nat) : Prop := ∀ i k, i < 131 → ¬ i = 45 → ¬ (refsOf i).getD k 0 = 0 → r i k = some ((refsOf i).getD k 0)
/-- a Folk at b -/
def FB (r : Nat → Nat → Option Nat) (b : Nat) : Prop := (SHF[b]? = some (0, 0) ∧ ∀ j, j < 6 → SHF[b + 1 + j]? = some (1, 7)) ∧ ∀ j, j < 6 → r b (3 + j) = some (b + 1 + j)
theorem FB.of {r : Nat → Nat → Option Nat} {b : Nat} (H : RefOk r) (hb : decide (SHF[b]? = some (0, 0)) && ((List.range 6).all fun j => decide (SHF[b + 1 + j]? = some (1, 7) ∧ (refsOf b).getD (3 + j) 0 = b + 1 + j ∧ ¬ b = 45 ∧ b < 131)) = true) : FB r b := by
  simp only [Bool.and_eq_true, decide_eq_true_eq] at hb
  have h2 : ∀ j, j < 6 → SHF[b + 1 + j]? = some (1, 7) ∧ (refsOf b).getD (3 + j) 0 = b + 1 + j ∧ ¬ b = 45 ∧ b < 131 := fun j hj => of_decide_eq_true (List.all_eq_true.mp hb.2 j (List.mem_range.mpr hj))
  refine ⟨⟨hb.1, fun j hj => (h2 j hj).1⟩, fun j hj => ?_⟩
  obtain ⟨-, h3, h4, h5⟩ := h2 j hj
  rw [H b (3 + j) h5 h4 (by rw [h3]; omega), h3]
section LAY
variable {β : Type} {h : HP} {b k : Nat} {v : Int32}
theorem bR3 {f : Nat → M β} (H : FB h.2 b) : bnd (gR 0 3 b) f h = f (b + 1) h := e_bnd (e_gR H.1.1 (H.2 0 (by omega)))
theorem bA1 {f : Int32 → M β} (H : FB h.2 b) (hk : k < 7) : bnd (aI (b + 1) (nI k)) f h = f (h.1 (b + 1) k) h := e_bnd (e_aI (H.1.2 0 (by omega)) hk (by omega))
theorem bS1 {f : Unit → M β} (H : FB h.2 b) (hk : k < 7) : bnd (sI (b + 1) (nI k) v) f h = f () (setR h.1 (b + 1) (upd (h.1 (b + 1)) k v), h.2) := e_bnd (e_sI (H.1.2 0 (by omega)) hk (by omega))
theorem bR4 {f : Nat → M β} (H : FB h.2 b) : bnd (gR 0 4 b) f h = f (b + 2) h := e_bnd (e_gR H.1.1 (H.2 1 (by omega)))
theorem bA2 {f : Int32 → M β} (H : FB h.2 b) (hk : k < 7) : bnd (aI (b + 2) (nI k)) f h = f (h.1 (b + 2) k) h := e_bnd (e_aI (H.1.2 1 (by omega)) hk (by omega))
theorem bS2 {f : Unit → M β} (H : FB h.2 b) (hk : k < 7) : bnd (sI (b + 2) (nI k) v) f h = f () (setR h.1 (b + 2) (upd (h.1 (b + 2)) k v), h.2) := e_bnd (e_sI (H.1.2 1 (by omega)) hk (by omega))
theorem bR5 {f : Nat → M β} (H : FB h.2 b) : bnd (gR 0 5 b) f h = f (b + 3) h := e_bnd (e_gR H.1.1 (H.2 2 (by omega)))
theorem bA3 {f : Int32 → M β} (H : FB h.2 b) (hk : k < 7) : bnd (aI (b + 3) (nI k)) f h = f (h.1 (b + 3) k) h := e_bnd (e_aI (H.1.2 2 (by omega)) hk (by omega))
theorem bS3 {f : Unit → M β} (H : FB h.2 b) (hk : k < 7) : bnd (sI (b + 3) (nI k) v) f h = f () (setR h.1 (b + 3) (upd (h.1 (b + 3)) k v), h.2) := e_bnd (e_sI (H.1.2 2 (by omega)) hk (by omega))
theorem bR6 {f : Nat → M β} (H : FB h.2 b) : bnd (gR 0 6 b) f h = f (b + 4) h := e_bnd (e_gR H.1.1 (H.2 3 (by omega)))
theorem bA4 {f : Int32 → M β} (H : FB h.2 b) (hk : k < 7) : bnd (aI (b + 4) (nI k)) f h = f (h.1 (b + 4) k) h := e_bnd (e_aI (H.1.2 3 (by omega)) hk (by omega))
theorem bS4 {f : Unit → M β} (H : FB h.2 b) (hk : k < 7) : bnd (sI (b + 4) (nI k) v) f h = f () (setR h.1 (b + 4) (upd (h.1 (b + 4)) k v), h.2) := e_bnd (e_sI (H.1.2 3 (by omega)) hk (by omega))
theorem bR7 {f : Nat → M β} (H : FB h.2 b) : bnd (gR 0 7 b) f h = f (b + 5) h := e_bnd (e_gR H.1.1 (H.2 4 (by omega)))
theorem bA5 {f : Int32 → M β} (H : FB h.2 b) (hk : k < 7) : bnd (aI (b + 5) (nI k)) f h = f (h.1 (b + 5) k) h := e_bnd (e_aI (H.1.2 4 (by omega)) hk (by omega))
theorem bS5 {f : Unit → M β} (H : FB h.2 b) (hk : k < 7) : bnd (sI (b + 5) (nI k) v) f h = f () (setR h.1 (b + 5) (upd (h.1 (b + 5)) k v), h.2) := e_bnd (e_sI (H.1.2 4 (by omega)) hk (by omega))
theorem bR8 {f : Nat → M β} (H : FB h.2 b) : bnd (gR 0 8 b) f h = f (b + 6) h := e_bnd (e_gR H.1.1 (H.2 5 (by omega)))
theorem bA6 {f : Int32 → M β} (H : FB h.2 b) (hk : k < 7) : bnd (aI (b + 6) (nI k)) f h = f (h.1 (b + 6) k) h := e_bnd (e_aI (H.1.2 5 (by omega)) hk (by omega))
theorem bS6 {f : Unit → M β} (H : FB h.2 b) (hk : k < 7) : bnd (sI (b + 6) (nI k) v) f h = f () (setR h.1 (b + 6) (upd (h.1 (b + 6)) k v), h.2) := e_bnd (e_sI (H.1.2 5 (by omega)) hk (by omega))
theorem bI {f : Int32 → M β} (H : FB h.2 b) : bnd (gI 0 k b) f h = f (h.1 b k) h := e_bnd (e_gI H.1.1)
theorem bP {f : Unit → M β} (H : FB h.2 b) : bnd (pI 0 k b v) f h = f () (setR h.1 b (upd (h.1 b) k v), h.2) := e_bnd (e_pI H.1.1)
theorem bC {α : Type} {m : M α} {f : α → M β} (H : FB h.2 b) : bnd (cv 0 b m) f h = bnd m f h := by
  unfold bnd
  rw [e_cv H.1.1]
theorem sh0 : SHF[0]? = some (0, 5) := rfl
theorem g0_0 {f : Nat → M β} (H : RefOk h.2) : bnd (gR 5 0 0) f h = f 1 h := e_bnd (e_gR rfl (H 0 0 (by decide) (by decide) (by decide)))
theorem g0_1 {f : Nat → M β} (H : RefOk h.2) : bnd (gR 5 1 0) f h = f 13 h := e_bnd (e_gR rfl (H 0 1 (by decide) (by decide) (by decide)))
theorem g0_2 {f : Nat → M β} (H : RefOk h.2) : bnd (gR 5 2 0) f h = f 25 h := e_bnd (e_gR rfl (H 0 2 (by decide) (by decide) (by decide)))
theorem g0_3 {f : Int32 → M β} : bnd (gI 5 3 0) f h = f (h.1 0 3) h := e_bnd (e_gI rfl)
theorem p0_3 {f : Unit → M β} (hv : v = 0 ∨ v = 1) : bnd (pZ 5 3 0 v) f h = f () (setR h.1 0 (upd (h.1 0) 3 v), h.2) := e_bnd (e_pZ rfl hv)
theorem g0_4 {f : Nat → M β} (H : RefOk h.2) : bnd (gR 5 4 0) f h = f 37 h := e_bnd (e_gR rfl (H 0 4 (by decide) (by decide) (by decide)))
theorem g0_5 {f : Nat → M β} (H : RefOk h.2) : bnd (gR 5 5 0) f h = f 44 h := e_bnd (e_gR rfl (H 0 5 (by decide) (by decide) (by decide)))
theorem g0_6 {f : Nat → M β} (H : RefOk h.2) : bnd (gR 5 6 0) f h = f 102 h := e_bnd (e_gR rfl (H 0 6 (by decide) (by decide) (by decide)))
theorem g0_7 {f : Nat → M β} (H : RefOk h.2) : bnd (gR 5 7 0) f h = f 104 h := e_bnd (e_gR rfl (H 0 7 (by decide) (by decide) (by decide)))
theorem g0_8 {f : Int32 → M β} : bnd (gI 5 8 0) f h = f (h.1 0 8) h := e_bnd (e_gI rfl)
theorem p0_8 {f : Unit → M β} : bnd (pI 5 8 0 v) f h = f () (setR h.1 0 (upd (h.1 0) 8 v), h.2) := e_bnd (e_pI rfl)
theorem g0_9 {f : Nat → M β} (H : RefOk h.2) : bnd (gR 5 9 0) f h = f 105 h := e_bnd (e_gR rfl (H 0 9 (by decide) (by decide) (by decide)))
theorem g0_10 {f : Nat → M β} (H : RefOk h.2) : bnd (gR 5 10 0) f h = f 106 h := e_bnd (e_gR rfl (H 0 10 (by decide) (by decide) (by decide)))
theorem g0_11 {f : Nat → M β} (H : RefOk h.2) : bnd (gR 5 11 0) f h = f 107 h := e_bnd (e_gR rfl (H 0 11 (by decide) (by decide) (by decide)))
theorem g0_12 {f : Nat → M β} (H : RefOk h.2) : bnd (gR 5 12 0) f h = f 108 h := e_bnd (e_gR rfl (H 0 12 (by decide) (by decide) (by decide)))
theorem g0_13 {f : Nat → M β} (H : RefOk h.2) : bnd (gR 5 13 0) f h = f 109 h := e_bnd (e_gR rfl (H 0 13 (by decide) (by decide) (by decide)))
theorem c0 {α : Type} {m : M α} {f : α → M β} : bnd (cv 5 0 m) f h = bnd m f h := by
  unfold bnd
  rw [e_cv sh0]
theorem sh1 : SHF[1]? = some (0, 4) := rfl
theorem g1_0 {f : Nat → M β} (H : RefOk h.2) : bnd (gR 4 0 1) f h = f 2 h := e_bnd (e_gR rfl (H 1 0 (by decide) (by decide) (by decide)))
theorem g1_1 {f : Nat → M β} (H : RefOk h.2) : bnd (gR 4 1 1) f h = f 9 h := e_bnd (e_gR rfl (H 1 1 (by decide) (by decide) (by decide)))
theorem c1 {α : Type} {m : M α} {f : α → M β} : bnd (cv 4 1 m) f h = bnd m f h := by
  unfold bnd
  rw [e_cv sh1]
theorem sh9 : SHF[9]? = some (0, 3) := rfl
theorem g9_0 {f : Nat → M β} (H : RefOk h.2) : bnd (gR 3 0 9) f h = f 10 h := e_bnd (e_gR rfl (H 9 0 (by decide) (by decide) (by decide)))
theorem g9_1 {f : Nat → M β} (H : RefOk h.2) : bnd (gR 3 1 9) f h = f 11 h := e_bnd (e_gR rfl (H 9 1 (by decide) (by decide) (by decide)))
theorem g9_2 {f : Nat → M β} (H : RefOk h.2) : bnd (gR 3 2 9) f h = f 12 h := e_bnd (e_gR rfl (H 9 2 (by decide) (by decide) (by decide)))
theorem c9 {α : Type} {m : M α} {f : α → M β} : bnd (cv 3 9 m) f h = bnd m f h := by
  unfold bnd
  rw [e_cv sh9]
theorem a10 {f : Int32 → M β} (hk : k < 8) : bnd (aI 10 (nI k)) f h = f (h.1 10 k) h := e_bnd (e_aI (n := 8) rfl hk (by omega))
theorem s10 {f : Unit → M β} (hk : k < 8) : bnd (sI 10 (nI k) v) f h = f () (setR h.1 10 (upd (h.1 10) k v), h.2) := e_bnd (e_sI (n := 8) rfl hk (by omega))
theorem l10 {f : Int32 → M β} : bnd (len 10) f h = f (nI 8) h := e_bnd (e_len rfl)
theorem a11 {f : Int32 → M β} (hk : k < 8) : bnd (aI 11 (nI k)) f h = f (h.1 11 k) h := e_bnd (e_aI (n := 8) rfl hk (by omega))
theorem s11 {f : Unit → M β} (hk : k < 8) : bnd (sI 11 (nI k) v) f h = f () (setR h.1 11 (upd (h.1 11) k v), h.2) := e_bnd (e_sI (n := 8) rfl hk (by omega))
theorem l11 {f : Int32 → M β} : bnd (len 11) f h = f (nI 8) h := e_bnd (e_len rfl)
theorem a12 {f : Int32 → M β} (hk : k < 8) : bnd (aI 12 (nI k)) f h = f (h.1 12 k) h := e_bnd (e_aI (n := 8) rfl hk (by omega))
theorem s12 {f : Unit → M β} (hk : k < 8) : bnd (sI 12 (nI k) v) f h = f () (setR h.1 12 (upd (h.1 12) k v), h.2) := e_bnd (e_sI (n := 8) rfl hk (by omega))
theorem l12 {f : Int32 → M β} : bnd (len 12) f h = f (nI 8) h := e_bnd (e_len rfl)
theorem sh13 : SHF[13]? = some (0, 4) := rfl
theorem g13_0 {f : Nat → M β} (H : RefOk h.2) : bnd (gR 4 0 13) f h = f 14 h := e_bnd (e_gR rfl (H 13 0 (by decide) (by decide) (by decide)))
theorem g13_1 {f : Nat → M β} (H : RefOk h.2) : bnd (gR 4 1 13) f h = f 21 h := e_bnd (e_gR rfl (H 13 1 (by decide) (by decide) (by decide)))
theorem c13 {α : Type} {m : M α} {f : α → M β} : bnd (cv 4 13 m) f h = bnd m f h := by
  unfold bnd
  rw [e_cv sh13]
theorem sh21 : SHF[21]? = some (0, 3) := rfl
theorem g21_0 {f : Nat → M β} (H : RefOk h.2) : bnd (gR 3 0 21) f h = f 22 h := e_bnd (e_gR rfl (H 21 0 (by decide) (by decide) (by decide)))
theorem g21_1 {f : Nat → M β} (H : RefOk h.2) : bnd (gR 3 1 21) f h = f 23 h := e_bnd (e_gR rfl (H 21 1 (by decide) (by decide) (by decide)))
theorem g21_2 {f : Nat → M β} (H : RefOk h.2) : bnd (gR 3 2 21) f h = f 24 h := e_bnd (e_gR rfl (H 21 2 (by decide) (by decide) (by decide)))
theorem c21 {α : Type} {m : M α} {f : α → M β} : bnd (cv 3 21 m) f h = bnd m f h := by
  unfold bnd
  rw [e_cv sh21]
theorem a22 {f : Int32 → M β} (hk : k < 8) : bnd (aI 22 (nI k)) f h = f (h.1 22 k) h := e_bnd (e_aI (n := 8) rfl hk (by omega))
theorem s22 {f : Unit → M β} (hk : k < 8) : bnd (sI 22 (nI k) v) f h = f () (setR h.1 22 (upd (h.1 22) k v), h.2) := e_bnd (e_sI (n := 8) rfl hk (by omega))
theorem l22 {f : Int32 → M β} : bnd (len 22) f h = f (nI 8) h := e_bnd (e_len rfl)
theorem a23 {f : Int32 → M β} (hk : k < 8) : bnd (aI 23 (nI k)) f h = f (h.1 23 k) h := e_bnd (e_aI (n := 8) rfl hk (by omega))
theorem s23 {f : Unit → M β} (hk : k < 8) : bnd (sI 23 (nI k) v) f h = f () (setR h.1 23 (upd (h.1 23) k v), h.2) := e_bnd (e_sI (n := 8) rfl hk (by omega))
theorem l23 {f : Int32 → M β} : bnd (len 23) f h = f (nI 8) h := e_bnd (e_len rfl)
theorem a24 {f : Int32 → M β} (hk : k < 8) : bnd (aI 24 (nI k)) f h = f (h.1 24 k) h := e_bnd (e_aI (n := 8) rfl hk (by omega))
theorem s24 {f : Unit → M β} (hk : k < 8) : bnd (sI 24 (nI k) v) f h = f () (setR h.1 24 (upd (h.1 24) k v), h.2) := e_bnd (e_sI (n := 8) rfl hk (by omega))
theorem l24 {f : Int32 → M β} : bnd (len 24) f h = f (nI 8) h := e_bnd (e_len rfl)
theorem sh25 : SHF[25]? = some (0, 4) := rfl
theorem g25_0 {f : Nat → M β} (H : RefOk h.2) : bnd (gR 4 0 25) f h = f 26 h := e_bnd (e_gR rfl (H 25 0 (by decide) (by decide) (by decide)))
theorem g25_1 {f : Nat → M β} (H : RefOk h.2) : bnd (gR 4 1 25) f h = f 33 h := e_bnd (e_gR rfl (H 25 1 (by decide) (by decide) (by decide)))
theorem c25 {α : Type} {m : M α} {f : α → M β} : bnd (cv 4 25 m) f h = bnd m f h := by
  unfold bnd
  rw [e_cv sh25]
theorem sh33 : SHF[33]? = some (0, 3) := rfl
theorem g33_0 {f : Nat → M β} (H : RefOk h.2) : bnd (gR 3 0 33) f h = f 34 h := e_bnd (e_gR rfl (H 33 0 (by decide) (by decide) (by decide)))
theorem g33_1 {f : Nat → M β} (H : RefOk h.2) : bnd (gR 3 1 33) f h = f 35 h := e_bnd (e_gR rfl (H 33 1 (by decide) (by decide) (by decide)))
theorem g33_2 {f : Nat → M β} (H : RefOk h.2) : bnd (gR 3 2 33) f h = f 36 h := e_bnd (e_gR rfl (H 33 2 (by decide) (by decide) (by decide)))
theorem c33 {α : Type} {m : M α} {f : α → M β} : bnd (cv 3 33 m) f h = bnd m f h := by
  unfold bnd
  rw [e_cv sh33]
theorem a34 {f : Int32 → M β} (hk : k < 8) : bnd (aI 34 (nI k)) f h = f (h.1 34 k) h := e_bnd (e_aI (n := 8) rfl hk (by omega))
theorem s34 {f : Unit → M β} (hk : k < 8) : bnd (sI 34 (nI k) v) f h = f () (setR h.1 34 (upd (h.1 34) k v), h.2) := e_bnd (e_sI (n := 8) rfl hk (by omega))
theorem l34 {f : Int32 → M β} : bnd (len 34) f h = f (nI 8) h := e_bnd (e_len rfl)
theorem a35 {f : Int32 → M β} (hk : k < 8) : bnd (aI 35 (nI k)) f h = f (h.1 35 k) h := e_bnd (e_aI (n := 8) rfl hk (by omega))
theorem s35 {f : Unit → M β} (hk : k < 8) : bnd (sI 35 (nI k) v) f h = f () (setR h.1 35 (upd (h.1 35) k v), h.2) := e_bnd (e_sI (n := 8) rfl hk (by omega))
theorem l35 {f : Int32 → M β} : bnd (len 35) f h = f (nI 8) h := e_bnd (e_len rfl)
theorem a36 {f : Int32 → M β} (hk : k < 8) : bnd (aI 36 (nI k)) f h = f (h.1 36 k) h := e_bnd (e_aI (n := 8) rfl hk (by omega))
theorem s36 {f : Unit → M β} (hk : k < 8) : bnd (sI 36 (nI k) v) f h = f () (setR h.1 36 (upd (h.1 36) k v), h.2) := e_bnd (e_sI (n := 8) rfl hk (by omega))
theorem l36 {f : Int32 → M β} : bnd (len 36) f h = f (nI 8) h := e_bnd (e_len rfl)
theorem sh44 : SHF[44]? = some (0, 2) := rfl
theorem g44_0 {f : Int32 → M β} : bnd (gI 2 0 44) f h = f (h.1 44 0) h := e_bnd (e_gI rfl)
theorem p44_0 {f : Unit → M β} : bnd (pI 2 0 44 v) f h = f () (setR h.1 44 (upd (h.1 44) 0 v), h.2) := e_bnd (e_pI rfl)
theorem g44_1 {f : Nat → M β} (H : RefOk h.2) : bnd (gR 2 1 44) f h = f 45 h := e_bnd (e_gR rfl (H 44 1 (by decide) (by decide) (by decide)))
theorem c44 {α : Type} {m : M α} {f : α → M β} : bnd (cv 2 44 m) f h = bnd m f h := by
  unfold bnd
  rw [e_cv sh44]
theorem sh102 : SHF[102]? = some (0, 1) := rfl
theorem g102_0 {f : Int32 → M β} : bnd (gI 1 0 102) f h = f (h.1 102 0) h := e_bnd (e_gI rfl)
theorem p102_0 {f : Unit → M β} : bnd (pI 1 0 102 v) f h = f () (setR h.1 102 (upd (h.1 102) 0 v), h.2) := e_bnd (e_pI rfl)
theorem g102_1 {f : Nat → M β} (H : RefOk h.2) : bnd (gR 1 1 102) f h = f 103 h := e_bnd (e_gR rfl (H 102 1 (by decide) (by decide) (by decide)))
theorem c102 {α : Type} {m : M α} {f : α → M β} : bnd (cv 1 102 m) f h = bnd m f h := by
  unfold bnd
  rw [e_cv sh102]
theorem a103 {f : Int32 → M β} (hk : k < 96) : bnd (aI 103 (nI k)) f h = f (h.1 103 k) h := e_bnd (e_aI (n := 96) rfl hk (by omega))
theorem s103 {f : Unit → M β} (hk : k < 96) : bnd (sI 103 (nI k) v) f h = f () (setR h.1 103 (upd (h.1 103) k v), h.2) := e_bnd (e_sI (n := 96) rfl hk (by omega))
theorem l103 {f : Int32 → M β} : bnd (len 103) f h = f (nI 96) h := e_bnd (e_len rfl)
theorem a104 {f : Int32 → M β} (hk : k < 12) : bnd (aI 104 (nI k)) f h = f (h.1 104 k) h := e_bnd (e_aI (n := 12) rfl hk (by omega))
theorem s104 {f : Unit → M β} (hk : k < 12) : bnd (sI 104 (nI k) v) f h = f () (setR h.1 104 (upd (h.1 104) k v), h.2) := e_bnd (e_sI (n := 12) rfl hk (by omega))
theorem l104 {f : Int32 → M β} : bnd (len 104) f h = f (nI 12) h := e_bnd (e_len rfl)
theorem a105 {f : Int32 → M β} (hk : k < 7) : bnd (aI 105 (nI k)) f h = f (h.1 105 k) h := e_bnd (e_aI (n := 7) rfl hk (by omega))
theorem s105 {f : Unit → M β} (hk : k < 7) : bnd (sI 105 (nI k) v) f h = f () (setR h.1 105 (upd (h.1 105) k v), h.2) := e_bnd (e_sI (n := 7) rfl hk (by omega))
theorem l105 {f : Int32 → M β} : bnd (len 105) f h = f (nI 7) h := e_bnd (e_len rfl)
theorem a106 {f : Int32 → M β} (hk : k < 100) : bnd (aI 106 (nI k)) f h = f (h.1 106 k) h := e_bnd (e_aI (n := 100) rfl hk (by omega))
theorem s106 {f : Unit → M β} (hk : k < 100) : bnd (sI 106 (nI k) v) f h = f () (setR h.1 106 (upd (h.1 106) k v), h.2) := e_bnd (e_sI (n := 100) rfl hk (by omega))
theorem l106 {f : Int32 → M β} : bnd (len 106) f h = f (nI 100) h := e_bnd (e_len rfl)
theorem a107 {f : Int32 → M β} (hk : k < 128) : bnd (aI 107 (nI k)) f h = f (h.1 107 k) h := e_bnd (e_aI (n := 128) rfl hk (by omega))
theorem s107 {f : Unit → M β} (hk : k < 128) : bnd (sI 107 (nI k) v) f h = f () (setR h.1 107 (upd (h.1 107) k v), h.2) := e_bnd (e_sI (n := 128) rfl hk (by omega))
theorem l107 {f : Int32 → M β} : bnd (len 107) f h = f (nI 128) h := e_bnd (e_len rfl)
theorem a108 {f : Int32 → M β} (hk : k < 256) : bnd (aI 108 (nI k)) f h = f (h.1 108 k) h := e_bnd (e_aI (n := 256) rfl hk (by omega))
theorem s108 {f : Unit → M β} (hk : k < 256) : bnd (sI 108 (nI k) v) f h = f () (setR h.1 108 (upd (h.1 108) k v), h.2) := e_bnd (e_sI (n := 256) rfl hk (by omega))
theorem l108 {f : Int32 → M β} : bnd (len 108) f h = f (nI 256) h := e_bnd (e_len rfl)
theorem a109 {f : Int32 → M β} (hk : k < 256) : bnd (aI 109 (nI k)) f h = f (h.1 109 k) h := e_bnd (e_aI (n := 256) rfl hk (by omega))
theorem s109 {f : Unit → M β} (hk : k < 256) : bnd (sI 109 (nI k) v) f h = f () (setR h.1 109 (upd (h.1 109) k v), h.2) := e_bnd (e_sI (n := 256) rfl hk (by omega))
theorem l109 {f : Int32 → M β} : bnd (len 109) f h = f (nI 256) h := e_bnd (e_len rfl)
theorem sh110 : SHF[110]? = some (0, 6) := rfl
theorem g110_0 {f : Nat → M β} (H : RefOk h.2) : bnd (gR 6 0 110) f h = f 111 h := e_bnd (e_gR rfl (H 110 0 (by decide) (by decide) (by decide)))
theorem g110_1 {f : Nat → M β} (H : RefOk h.2) : bnd (gR 6 1 110) f h = f 112 h := e_bnd (e_gR rfl (H 110 1 (by decide) (by decide) (by decide)))
theorem g110_2 {f : Nat → M β} (H : RefOk h.2) : bnd (gR 6 2 110) f h = f 113 h := e_bnd (e_gR rfl (H 110 2 (by decide) (by decide) (by decide)))
theorem g110_3 {f : Nat → M β} (H : RefOk h.2) : bnd (gR 6 3 110) f h = f 114 h := e_bnd (e_gR rfl (H 110 3 (by decide) (by decide) (by decide)))
theorem g110_4 {f : Nat → M β} (H : RefOk h.2) : bnd (gR 6 4 110) f h = f 115 h := e_bnd (e_gR rfl (H 110 4 (by decide) (by decide) (by decide)))
theorem g110_5 {f : Nat → M β} (H : RefOk h.2) : bnd (gR 6 5 110) f h = f 116 h := e_bnd (e_gR rfl (H 110 5 (by decide) (by decide) (by decide)))
theorem g110_6 {f : Nat → M β} (H : RefOk h.2) : bnd (gR 6 6 110) f h = f 117 h := e_bnd (e_gR rfl (H 110 6 (by decide) (by decide) (by decide)))
theorem g110_7 {f : Nat → M β} (H : RefOk h.2) : bnd (gR 6 7 110) f h = f 118 h := e_bnd (e_gR rfl (H 110 7 (by decide) (by decide) (by decide)))
theorem g110_8 {f : Int32 → M β} : bnd (gI 6 8 110) f h = f (h.1 110 8) h := e_bnd (e_gI rfl)
theorem p110_8 {f : Unit → M β} : bnd (pI 6 8 110 v) f h = f () (setR h.1 110 (upd (h.1 110) 8 v), h.2) := e_bnd (e_pI rfl)
theorem g110_9 {f : Int32 → M β} : bnd (gI 6 9 110) f h = f (h.1 110 9) h := e_bnd (e_gI rfl)
theorem p110_9 {f : Unit → M β} : bnd (pI 6 9 110 v) f h = f () (setR h.1 110 (upd (h.1 110) 9 v), h.2) := e_bnd (e_pI rfl)
theorem g110_10 {f : Nat → M β} (H : RefOk h.2) : bnd (gR 6 10 110) f h = f 119 h := e_bnd (e_gR rfl (H 110 10 (by decide) (by decide) (by decide)))
theorem g110_11 {f : Nat → M β} (H : RefOk h.2) : bnd (gR 6 11 110) f h = f 120 h := e_bnd (e_gR rfl (H 110 11 (by decide) (by decide) (by decide)))
theorem g110_12 {f : Nat → M β} (H : RefOk h.2) : bnd (gR 6 12 110) f h = f 121 h := e_bnd (e_gR rfl (H 110 12 (by decide) (by decide) (by decide)))
theorem g110_13 {f : Nat → M β} (H : RefOk h.2) : bnd (gR 6 13 110) f h = f 122 h := e_bnd (e_gR rfl (H 110 13 (by decide) (by decide) (by decide)))
theorem g110_14 {f : Int32 → M β} : bnd (gI 6 14 110) f h = f (h.1 110 14) h := e_bnd (e_gI rfl)
theorem p110_14 {f : Unit → M β} : bnd (pI 6 14 110 v) f h = f () (setR h.1 110 (upd (h.1 110) 14 v), h.2) := e_bnd (e_pI rfl)
theorem g110_15 {f : Int32 → M β} : bnd (gI 6 15 110) f h = f (h.1 110 15) h := e_bnd (e_gI rfl)
theorem p110_15 {f : Unit → M β} : bnd (pI 6 15 110 v) f h = f () (setR h.1 110 (upd (h.1 110) 15 v), h.2) := e_bnd (e_pI rfl)
theorem g110_16 {f : Int32 → M β} : bnd (gI 6 16 110) f h = f (h.1 110 16) h := e_bnd (e_gI rfl)
theorem p110_16 {f : Unit → M β} : bnd (pI 6 16 110 v) f h = f () (setR h.1 110 (upd (h.1 110) 16 v), h.2) := e_bnd (e_pI rfl)
theorem g110_17 {f : Nat → M β} (H : RefOk h.2) : bnd (gR 6 17 110) f h = f 123 h := e_bnd (e_gR rfl (H 110 17 (by decide) (by decide) (by decide)))
theorem g110_18 {f : Int32 → M β} : bnd (gI 6 18 110) f h = f (h.1 110 18) h := e_bnd (e_gI rfl)
theorem p110_18 {f : Unit → M β} (hv : v = 0 ∨ v = 1) : bnd (pZ 6 18 110 v) f h = f () (setR h.1 110 (upd (h.1 110) 18 v), h.2) := e_bnd (e_pZ rfl hv)
theorem g110_19 {f : Int32 → M β} : bnd (gI 6 19 110) f h = f (h.1 110 19) h := e_bnd (e_gI rfl)
theorem p110_19 {f : Unit → M β} (hv : v = 0 ∨ v = 1) : bnd (pZ 6 19 110 v) f h = f () (setR h.1 110 (upd (h.1 110) 19 v), h.2) := e_bnd (e_pZ rfl hv)
theorem g110_20 {f : Int32 → M β} : bnd (gI 6 20 110) f h = f (h.1 110 20) h := e_bnd (e_gI rfl)
theorem p110_20 {f : Unit → M β} : bnd (pI 6 20 110 v) f h = f () (setR h.1 110 (upd (h.1 110) 20 v), h.2) := e_bnd (e_pI rfl)
theorem g110_21 {f : Int32 → M β} : bnd (gI 6 21 110) f h = f (h.1 110 21) h := e_bnd (e_gI rfl)
theorem p110_21 {f : Unit → M β} : bnd (pI 6 21 110 v) f h = f () (setR h.1 110 (upd (h.1 110) 21 v), h.2) := e_bnd (e_pI rfl)
theorem g110_22 {f : Nat → M β} (H : RefOk h.2) : bnd (gR 6 22 110) f h = f 124 h := e_bnd (e_gR rfl (H 110 22 (by decide) (by decide) (by decide)))
theorem g110_23 {f : Nat → M β} (H : RefOk h.2) : bnd (gR 6 23 110) f h = f 125 h := e_bnd (e_gR rfl (H 110 23 (by decide) (by decide) (by decide)))
theorem g110_24 {f : Nat → M β} (H : RefOk h.2) : bnd (gR 6 24 110) f h = f 126 h := e_bnd (e_gR rfl (H 110 24 (by decide) (by decide) (by decide)))
theorem g110_25 {f : Int32 → M β} : bnd (gI 6 25 110) f h = f (h.1 110 25) h := e_bnd (e_gI rfl)
theorem p110_25 {f : Unit → M β} : bnd (pI 6 25 110 v) f h = f () (setR h.1 110 (upd (h.1 110) 25 v), h.2) := e_bnd (e_pI rfl)
theorem g110_26 {f : Nat → M β} (H : RefOk h.2) : bnd (gR 6 26 110) f h = f 127 h := e_bnd (e_gR rfl (H 110 26 (by decide) (by decide) (by decide)))
theorem g110_27 {f : Nat → M β} (H : RefOk h.2) : bnd (gR 6 27 110) f h = f 128 h := e_bnd (e_gR rfl (H 110 27 (by decide) (by decide) (by decide)))
theorem g110_28 {f : Nat → M β} (H : RefOk h.2) : bnd (gR 6 28 110) f h = f 129 h := e_bnd (e_gR rfl (H 110 28 (by decide) (by decide) (by decide)))
theorem g110_29 {f : Nat → M β} (H : RefOk h.2) : bnd (gR 6 29 110) f h = f 130 h := e_bnd (e_gR rfl (H 110 29 (by decide) (by decide) (by decide)))
theorem c110 {α : Type} {m : M α} {f : α → M β} : bnd (cv 6 110 m) f h = bnd m f h := by
  unfold bnd
  rw [e_cv sh110]
theorem a111 {f : Int32 → M β} (hk : k < 7) : bnd (aI 111 (nI k)) f h = f (h.1 111 k) h := e_bnd (e_aI (n := 7) rfl hk (by omega))
theorem s111 {f : Unit → M β} (hk : k < 7) : bnd (sI 111 (nI k) v) f h = f () (setR h.1 111 (upd (h.1 111) k v), h.2) := e_bnd (e_sI (n := 7) rfl hk (by omega))
theorem l111 {f : Int32 → M β} : bnd (len 111) f h = f (nI 7) h := e_bnd (e_len rfl)
theorem a112 {f : Int32 → M β} (hk : k < 7) : bnd (aI 112 (nI k)) f h = f (h.1 112 k) h := e_bnd (e_aI (n := 7) rfl hk (by omega))
theorem s112 {f : Unit → M β} (hk : k < 7) : bnd (sI 112 (nI k) v) f h = f () (setR h.1 112 (upd (h.1 112) k v), h.2) := e_bnd (e_sI (n := 7) rfl hk (by omega))
theorem l112 {f : Int32 → M β} : bnd (len 112) f h = f (nI 7) h := e_bnd (e_len rfl)
theorem a113 {f : Int32 → M β} (hk : k < 7) : bnd (aI 113 (nI k)) f h = f (h.1 113 k) h := e_bnd (e_aI (n := 7) rfl hk (by omega))
theorem s113 {f : Unit → M β} (hk : k < 7) : bnd (sI 113 (nI k) v) f h = f () (setR h.1 113 (upd (h.1 113) k v), h.2) := e_bnd (e_sI (n := 7) rfl hk (by omega))
theorem l113 {f : Int32 → M β} : bnd (len 113) f h = f (nI 7) h := e_bnd (e_len rfl)
theorem a114 {f : Int32 → M β} (hk : k < 7) : bnd (aI 114 (nI k)) f h = f (h.1 114 k) h := e_bnd (e_aI (n := 7) rfl hk (by omega))
theorem s114 {f : Unit → M β} (hk : k < 7) : bnd (sI 114 (nI k) v) f h = f () (setR h.1 114 (upd (h.1 114) k v), h.2) := e_bnd (e_sI (n := 7) rfl hk (by omega))
theorem l114 {f : Int32 → M β} : bnd (len 114) f h = f (nI 7) h := e_bnd (e_len rfl)
theorem a115 {f : Int32 → M β} (hk : k < 7) : bnd (aI 115 (nI k)) f h = f (h.1 115 k) h := e_bnd (e_aI (n := 7) rfl hk (by omega))
theorem s115 {f : Unit → M β} (hk : k < 7) : bnd (sI 115 (nI k) v) f h = f () (setR h.1 115 (upd (h.1 115) k v), h.2) := e_bnd (e_sI (n := 7) rfl hk (by omega))
theorem l115 {f : Int32 → M β} : bnd (len 115) f h = f (nI 7) h := e_bnd (e_len rfl)
theorem a116 {f : Int32 → M β} (hk : k < 7) : bnd (aI 116 (nI k)) f h = f (h.1 116 k) h := e_bnd (e_aI (n := 7) rfl hk (by omega))
theorem s116 {f : Unit → M β} (hk : k < 7) : bnd (sI 116 (nI k) v) f h = f () (setR h.1 116 (upd (h.1 116) k v), h.2) := e_bnd (e_sI (n := 7) rfl hk (by omega))
theorem l116 {f : Int32 → M β} : bnd (len 116) f h = f (nI 7) h := e_bnd (e_len rfl)
theorem a117 {f : Int32 → M β} (hk : k < 8) : bnd (aI 117 (nI k)) f h = f (h.1 117 k) h := e_bnd (e_aI (n := 8) rfl hk (by omega))
theorem s117 {f : Unit → M β} (hk : k < 8) : bnd (sI 117 (nI k) v) f h = f () (setR h.1 117 (upd (h.1 117) k v), h.2) := e_bnd (e_sI (n := 8) rfl hk (by omega))
theorem l117 {f : Int32 → M β} : bnd (len 117) f h = f (nI 8) h := e_bnd (e_len rfl)
theorem a118 {f : Int32 → M β} (hk : k < 8) : bnd (aI 118 (nI k)) f h = f (h.1 118 k) h := e_bnd (e_aI (n := 8) rfl hk (by omega))
theorem s118 {f : Unit → M β} (hk : k < 8) : bnd (sI 118 (nI k) v) f h = f () (setR h.1 118 (upd (h.1 118) k v), h.2) := e_bnd (e_sI (n := 8) rfl hk (by omega))
theorem l118 {f : Int32 → M β} : bnd (len 118) f h = f (nI 8) h := e_bnd (e_len rfl)
theorem a119 {f : Int32 → M β} (hk : k < 96) : bnd (aI 119 (nI k)) f h = f (h.1 119 k) h := e_bnd (e_aI (n := 96) rfl hk (by omega))
theorem s119 {f : Unit → M β} (hk : k < 96) : bnd (sI 119 (nI k) v) f h = f () (setR h.1 119 (upd (h.1 119) k v), h.2) := e_bnd (e_sI (n := 96) rfl hk (by omega))
theorem l119 {f : Int32 → M β} : bnd (len 119) f h = f (nI 96) h := e_bnd (e_len rfl)
theorem a120 {f : Int32 → M β} (hk : k < 48) : bnd (aI 120 (nI k)) f h = f (h.1 120 k) h := e_bnd (e_aI (n := 48) rfl hk (by omega))
theorem s120 {f : Unit → M β} (hk : k < 48) : bnd (sI 120 (nI k) v) f h = f () (setR h.1 120 (upd (h.1 120) k v), h.2) := e_bnd (e_sI (n := 48) rfl hk (by omega))
theorem l120 {f : Int32 → M β} : bnd (len 120) f h = f (nI 48) h := e_bnd (e_len rfl)
theorem a121 {f : Int32 → M β} (hk : k < 48) : bnd (aI 121 (nI k)) f h = f (h.1 121 k) h := e_bnd (e_aI (n := 48) rfl hk (by omega))
theorem s121 {f : Unit → M β} (hk : k < 48) : bnd (sI 121 (nI k) v) f h = f () (setR h.1 121 (upd (h.1 121) k v), h.2) := e_bnd (e_sI (n := 48) rfl hk (by omega))
theorem l121 {f : Int32 → M β} : bnd (len 121) f h = f (nI 48) h := e_bnd (e_len rfl)
theorem a122 {f : Int32 → M β} (hk : k < 144) : bnd (aI 122 (nI k)) f h = f (h.1 122 k) h := e_bnd (e_aI (n := 144) rfl hk (by omega))
theorem s122 {f : Unit → M β} (hk : k < 144) : bnd (sI 122 (nI k) v) f h = f () (setR h.1 122 (upd (h.1 122) k v), h.2) := e_bnd (e_sI (n := 144) rfl hk (by omega))
theorem l122 {f : Int32 → M β} : bnd (len 122) f h = f (nI 144) h := e_bnd (e_len rfl)
theorem a123 {f : Int32 → M β} (hk : k < 660) : bnd (aI 123 (nI k)) f h = f (h.1 123 k) h := e_bnd (e_aI (n := 660) rfl hk (by omega))
theorem s123 {f : Unit → M β} (hk : k < 660) : bnd (sI 123 (nI k) v) f h = f () (setR h.1 123 (upd (h.1 123) k v), h.2) := e_bnd (e_sI (n := 660) rfl hk (by omega))
theorem l123 {f : Int32 → M β} : bnd (len 123) f h = f (nI 660) h := e_bnd (e_len rfl)
theorem a124 {f : Int32 → M β} (hk : k < 7) : bnd (aI 124 (nI k)) f h = f (h.1 124 k) h := e_bnd (e_aI (n := 7) rfl hk (by omega))
theorem s124 {f : Unit → M β} (hk : k < 7) : bnd (sI 124 (nI k) v) f h = f () (setR h.1 124 (upd (h.1 124) k v), h.2) := e_bnd (e_sI (n := 7) rfl hk (by omega))
theorem l124 {f : Int32 → M β} : bnd (len 124) f h = f (nI 7) h := e_bnd (e_len rfl)
theorem a125 {f : Int32 → M β} (hk : k < 868) : bnd (aI 125 (nI k)) f h = f (h.1 125 k) h := e_bnd (e_aI (n := 868) rfl hk (by omega))
theorem s125 {f : Unit → M β} (hk : k < 868) : bnd (sI 125 (nI k) v) f h = f () (setR h.1 125 (upd (h.1 125) k v), h.2) := e_bnd (e_sI (n := 868) rfl hk (by omega))
theorem l125 {f : Int32 → M β} : bnd (len 125) f h = f (nI 868) h := e_bnd (e_len rfl)
theorem a126 {f : Int32 → M β} (hk : k < 12) : bnd (aI 126 (nI k)) f h = f (h.1 126 k) h := e_bnd (e_aI (n := 12) rfl hk (by omega))
theorem s126 {f : Unit → M β} (hk : k < 12) : bnd (sI 126 (nI k) v) f h = f () (setR h.1 126 (upd (h.1 126) k v), h.2) := e_bnd (e_sI (n := 12) rfl hk (by omega))
theorem l126 {f : Int32 → M β} : bnd (len 126) f h = f (nI 12) h := e_bnd (e_len rfl)
theorem a127 {f : Int32 → M β} (hk : k < 100) : bnd (aI 127 (nI k)) f h = f (h.1 127 k) h := e_bnd (e_aI (n := 100) rfl hk (by omega))
theorem s127 {f : Unit → M β} (hk : k < 100) : bnd (sI 127 (nI k) v) f h = f () (setR h.1 127 (upd (h.1 127) k v), h.2) := e_bnd (e_sI (n := 100) rfl hk (by omega))
theorem l127 {f : Int32 → M β} : bnd (len 127) f h = f (nI 100) h := e_bnd (e_len rfl)
theorem a128 {f : Int32 → M β} (hk : k < 128) : bnd (aI 128 (nI k)) f h = f (h.1 128 k) h := e_bnd (e_aI (n := 128) rfl hk (by omega))
theorem s128 {f : Unit → M β} (hk : k < 128) : bnd (sI 128 (nI k) v) f h = f () (setR h.1 128 (upd (h.1 128) k v), h.2) := e_bnd (e_sI (n := 128) rfl hk (by omega))
theorem l128 {f : Int32 → M β} : bnd (len 128) f h = f (nI 128) h := e_bnd (e_len rfl)
theorem a129 {f : Int32 → M β} (hk : k < 8) : bnd (aI 129 (nI k)) f h = f (h.1 129 k) h := e_bnd (e_aI (n := 8) rfl hk (by omega))
theorem s129 {f : Unit → M β} (hk : k < 8) : bnd (sI 129 (nI k) v) f h = f () (setR h.1 129 (upd (h.1 129) k v), h.2) := e_bnd (e_sI (n := 8) rfl hk (by omega))
theorem l129 {f : Int32 → M β} : bnd (len 129) f h = f (nI 8) h := e_bnd (e_len rfl)
theorem a130 {f : Int32 → M β} (hk : k < 2048) : bnd (aI 130 (nI k)) f h = f (h.1 130 k) h := e_bnd (e_aI (n := 2048) rfl hk (by omega))
theorem s130 {f : Unit → M β} (hk : k < 2048) : bnd (sI 130 (nI k) v) f h = f () (setR h.1 130 (upd (h.1 130) k v), h.2) := e_bnd (e_sI (n := 2048) rfl hk (by omega))
theorem l130 {f : Int32 → M β} : bnd (len 130) f h = f (nI 2048) h := e_bnd (e_len rfl)
end LAY
