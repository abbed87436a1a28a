/-! PURE PART: weakest preconditions over the heap's functions, loops, numbers -/
def wp {α : Type} (m : M α) (h : HP) (Q : α → HP → Prop) : Prop := ∃ v h', m h = some (v, h') ∧ Q v h'
theorem wp_mono {α : Type} {m : M α} {h : HP} {Q Q' : α → HP → Prop} (H : wp m h Q) (k : ∀ v h', Q v h' → Q' v h') : wp m h Q' := by
  obtain ⟨v, h', e, q⟩ := H
  exact ⟨v, h', e, k v h' q⟩
theorem wp_of {α : Type} {m : M α} {h h' : HP} {v : α} {Q : α → HP → Prop} (e : m h = some (v, h')) (q : Q v h') : wp m h Q := ⟨v, h', e, q⟩
theorem wp_bnd {α β : Type} {x : M α} {f : α → M β} {h : HP} {Q : β → HP → Prop} (H : wp x h fun v h' => wp (f v) h' Q) : wp (bnd x f) h Q := by
  obtain ⟨v, h', e, v2, h2, e2, q⟩ := H
  exact ⟨v2, h2, by unfold bnd; rw [e]; exact e2, q⟩
theorem wp_call {α β : Type} {x : M α} {f : α → M β} {h h' : HP} {v : α} {Q : β → HP → Prop} (e : x h = some (v, h')) (H : wp (f v) h' Q) : wp (bnd x f) h Q := wp_bnd ⟨v, h', e, H⟩
theorem wp_rt {α : Type} {v : α} {h : HP} {Q : α → HP → Prop} (q : Q v h) : wp (rt v) h Q := ⟨v, h, rfl, q⟩
theorem wp_retZ {v : Int32} {h : HP} {Q : Int32 → HP → Prop} (hv : v = 0 ∨ v = 1) (q : Q v h) : wp (retZ v) h Q := ⟨v, h, if_pos hv, q⟩
theorem wp_jn {α β : Type} {F : (α → M β) → M β} {G : α → M β} {h : HP} {Q : β → HP → Prop} (H : wp (F G) h Q) : wp (jn F G) h Q := H
theorem wp_if {α : Type} {P : Prop} [Decidable P] {A B : M α} {h : HP} {Q : α → HP → Prop} (a : P → wp A h Q) (b : ¬ P → wp B h Q) : wp (if P then A else B) h Q := by
  by_cases p : P
  · rw [if_pos p]; exact a p
  · rw [if_neg p]; exact b p
theorem wp_loop {σ β : Type} {B : σ → (σ → M β) → M β} {Q : β → HP → Prop} (I : Nat → σ → HP → Prop) (n : Nat) (hn : n < NF) (step : ∀ i, i < n → ∀ s h, I i s h → ∀ k, (∀ s' h', I (i + 1) s' h' → wp (k s') h' Q) → wp (B s k) h Q) (fin : ∀ s h k, I n s h → wp (B s k) h Q) {s : σ} {h : HP} (h0 : I 0 s h) : wp (loopK NF B s) h Q := by
  have key : ∀ d N i s h, i + d = n → d < N → I i s h → wp (loopK N B s) h Q := by
    intro d
    induction d with
    | zero =>
      intro N i s h hi hN hI
      cases N with
      | zero => omega
      | succ N =>
        have : i = n := by omega
        subst this
        exact fin s h _ hI
    | succ d ih =>
      intro N i s h hi hN hI
      cases N with
      | zero => omega
      | succ N => exact step i (by omega) s h hI _ (fun s' h' hI' => ih N (i + 1) s' h' (by omega) (by omega) hI')
  exact key n NF 0 s h (by omega) hn h0
/-- a loop that leaves the heap as it is -/
theorem lp_pure {σ β : Type} {B : σ → (σ → M β) → M β} {h : HP} {z : Option (β × HP)} (s : Nat → σ) (n : Nat) (hn : n < NF) (step : ∀ i, i < n → ∀ k, B (s i) k h = k (s (i + 1)) h) (fin : ∀ k, B (s n) k h = z) : loopK NF B (s 0) h = z := by
  have key : ∀ d N i, i + d = n → d < N → loopK N B (s i) h = z := by
    intro d
    induction d with
    | zero =>
      intro N i hi hN
      cases N with
      | zero => omega
      | succ N =>
        have : i = n := by omega
        subst this
        exact fin _
    | succ d ih =>
      intro N i hi hN
      cases N with
      | zero => omega
      | succ N => exact (step i (by omega) _).trans (ih N (i + 1) (by omega) (by omega))
  exact key n NF 0 (by omega) hn
/-- the same, that may leave early: at the j-th turn it ends -/
theorem lp_exit {σ β : Type} {B : σ → (σ → M β) → M β} {h : HP} {z : Option (β × HP)} (s : Nat → σ) (j : Nat) (hn : j < NF) (step : ∀ i, i < j → ∀ k, B (s i) k h = k (s (i + 1)) h) (fin : ∀ k, B (s j) k h = z) : loopK NF B (s 0) h = z := lp_pure s j hn step fin
theorem nf_lt {n : Nat} (h : n < 1000000) : n < NF := h
/-! steps that read and write -/
theorem e_bnd {α β : Type} {x : M α} {f : α → M β} {h h' : HP} {v : α} (e : x h = some (v, h')) : bnd x f h = f v h' := by
  unfold bnd
  rw [e]
  rfl
theorem e_cv {α : Type} {ci o : Nat} {m : M α} {h : HP} (hs : SHF[o]? = some (0, ci)) : cv ci o m h = m h := if_pos hs
theorem e_gI {ci k a : Nat} {h : HP} (hs : SHF[a]? = some (0, ci)) : gI ci k a h = some (h.1 a k, h) := if_pos hs
theorem e_gR {ci k a r : Nat} {h : HP} (hs : SHF[a]? = some (0, ci)) (hr : h.2 a k = some r) : gR ci k a h = some (r, h) := by
  unfold gR
  rw [if_pos hs, hr]
  rfl
theorem e_pI {ci k a : Nat} {v : Int32} {h : HP} (hs : SHF[a]? = some (0, ci)) : pI ci k a v h = some ((), (setR h.1 a (upd (h.1 a) k v), h.2)) := if_pos hs
theorem e_pZ {ci k a : Nat} {v : Int32} {h : HP} (hs : SHF[a]? = some (0, ci)) (hv : v = 0 ∨ v = 1) : pZ ci k a v h = some ((), (setR h.1 a (upd (h.1 a) k v), h.2)) := if_pos ⟨hs, hv⟩
theorem nI_bad {i n : Nat} (hi : i < n) (hn : n < 2 ^ 31) : ¬ (nI i < 0 ∨ n ≤ (nI i).toNatClampNeg) := nI_in hi hn
theorem e_aI {a n i : Nat} {h : HP} (hs : SHF[a]? = some (1, n)) (hi : i < n) (hn : n < 2 ^ 31) : aI a (nI i) h = some (h.1 a i, h) := by
  unfold aI
  rw [hs]
  show (if _ then _ else _) = _
  rw [if_pos (nI_bad hi hn), nI_clamp (Nat.lt_trans hi hn)]
theorem e_sI {a n i : Nat} {v : Int32} {h : HP} (hs : SHF[a]? = some (1, n)) (hi : i < n) (hn : n < 2 ^ 31) : sI a (nI i) v h = some ((), (setR h.1 a (upd (h.1 a) i v), h.2)) := by
  unfold sI
  rw [hs]
  show (if _ then _ else _) = _
  rw [if_pos (nI_bad hi hn), nI_clamp (Nat.lt_trans hi hn)]
theorem e_aR {a n i r : Nat} {h : HP} (hs : SHF[a]? = some (2, n)) (hi : i < n) (hn : n < 2 ^ 31) (hr : h.2 a i = some r) : aR a (nI i) h = some (r, h) := by
  unfold aR
  rw [hs]
  show (if _ then _ else _) = _
  rw [if_pos (nI_bad hi hn), nI_clamp (Nat.lt_trans hi hn), hr]
  rfl
theorem e_sR {a n i q : Nat} {h : HP} (hs : SHF[a]? = some (2, n)) (hq : SHF[q]? = some (0, 0)) (hi : i < n) (hn : n < 2 ^ 31) : sR a (nI i) q h = some ((), (h.1, setR h.2 a (va_up (h.2 a) i (some q)))) := by
  unfold sR
  rw [hs]
  show (if _ then _ else _) = _
  rw [if_pos ⟨hq, nI_bad hi hn⟩, nI_clamp (Nat.lt_trans hi hn)]
theorem e_len {a n : Nat} {h : HP} (hs : SHF[a]? = some (1, n)) : len a h = some (nI n, h) := by
  unfold len
  rw [hs]
  rfl
theorem e_div {x y : Nat} {h : HP} (hx : x < 2 ^ 31) (h0 : 0 < y) (hy : y < 2 ^ 31) : divM (nI x) (nI y) h = some (nI (x / y), h) := by
  unfold divM
  rw [if_neg (nI_ne0 h0 hy), pk_div hx h0 hy]
theorem e_rem {x y : Nat} {h : HP} (hx : x < 2 ^ 31) (h0 : 0 < y) (hy : y < 2 ^ 31) : remM (nI x) (nI y) h = some (nI (x % y), h) := by
  unfold remM
  rw [if_neg (nI_ne0 h0 hy), pk_rem hx h0 hy]
theorem e_cpy {o d n0 n1 sp dp n : Nat} {h : HP} (ho : SHF[o]? = some (1, n0)) (hd : SHF[d]? = some (1, n1)) (h1 : sp + n ≤ n0) (h2 : dp + n ≤ n1) (b0 : n0 < 2 ^ 31) (b1 : n1 < 2 ^ 31) : cpy o (nI sp) d (nI dp) (nI n) h = some ((), (setR h.1 d (va_cpy (h.1 o) (h.1 d) sp dp n), h.2)) := by
  unfold cpy
  rw [ho, hd]
  show (if _ then _ else _) = _
  have c1 : (nI sp).toNatClampNeg = sp := nI_clamp (by omega)
  have c2 : (nI dp).toNatClampNeg = dp := nI_clamp (by omega)
  have c3 : (nI n).toNatClampNeg = n := nI_clamp (by omega)
  rw [c1, c2, c3, if_pos ⟨nI_pos (by omega), nI_pos (by omega), nI_pos (by omega), h1, h2⟩]
/-! rows of the heap -/
theorem set_eq (f : Nat → Nat → Int32) (i : Nat) (r : Nat → Int32) : setR f i r i = r := by simp [setR]
theorem set_ne (f : Nat → Nat → Int32) {i j : Nat} (r : Nat → Int32) (h : j ≠ i) : setR f i r j = f j := by simp [setR, h]
theorem upd_eq (f : Nat → Int32) (k : Nat) (v : Int32) : upd f k v k = v := by simp [upd]
theorem upd_ne (f : Nat → Int32) {k j : Nat} (v : Int32) (h : j ≠ k) : upd f k v j = f j := by simp [upd, h]
/-! numbers -/
theorem n0 : (0 : Int32) = nI 0 := rfl
theorem n1 : (1 : Int32) = nI 1 := rfl
theorem n2 : (2 : Int32) = nI 2 := rfl
theorem n3 : (3 : Int32) = nI 3 := rfl
theorem n4 : (4 : Int32) = nI 4 := rfl
theorem n5 : (5 : Int32) = nI 5 := rfl
theorem n6 : (6 : Int32) = nI 6 := rfl
theorem n7 : (7 : Int32) = nI 7 := rfl
theorem n8 : (8 : Int32) = nI 8 := rfl
theorem n9 : (9 : Int32) = nI 9 := rfl
theorem n99 : (99 : Int32) = nI 99 := rfl
theorem le_nI {a b : Nat} (ha : a < 2 ^ 31) (hb : b < 2 ^ 31) : (nI a ≤ nI b) = (a ≤ b) := propext (nI_leI ha hb)
theorem lt_nI {a b : Nat} (ha : a < 2 ^ 31) (hb : b < 2 ^ 31) : (nI a < nI b) = (a < b) := propext (nI_ltI ha hb)
theorem eq_nI {a b : Nat} (ha : a < 2 ^ 31) (hb : b < 2 ^ 31) : (nI a = nI b) = (a = b) := propext (nI_eq ha hb)
/-- bits -/
theorem and31 {k : Nat} (hk : k < 32) : nI k &&& 31 = nI k := by
  rw [pk_andN (n := k) (by omega) 5 (by decide)]
  congr 1
  omega
theorem shr_nI {x k : Nat} (hx : x < 2 ^ 31) (hk : k < 32) : nI x >>> (nI k &&& 31) = nI (x / 2 ^ k) := by
  rw [and31 hk]
  refine pk_shrN hx _ k ?_
  have : ∀ j, j < 32 → ((nI j).toBitVec.smod 32).toNat = j := by decide
  exact this k hk
theorem shl_nI {x k : Nat} (hk : k < 32) (hx : x * 2 ^ k < 2 ^ 32) : nI x <<< (nI k &&& 31) = nI (x * 2 ^ k) := by
  rw [and31 hk]
  refine pk_shlN _ k ?_ hx
  have : ∀ j, j < 32 → ((nI j).toBitVec.smod 32).toNat = j := by decide
  exact this k hk
theorem and1 {x : Nat} (hx : x < 2 ^ 31) : nI x &&& 1 = nI (x % 2) := pk_andN (by omega) 1 (by decide)
