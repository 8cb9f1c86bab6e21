/-! numbers and names are read -/
def SD (d k i : Nat) : Prop := k ∈ [3, 4] ∨ (i = d ∧ k ∈ [5, 6, 7, 8, 9, 10, 11, 12, 14, 15, 16, 17, 18, 19])
def FrW (W Z : Sm) : Prop := Z.2 = W.2 ∧ (∀ k i, ¬ k ∈ [48, 53, 61, 62, 63, 64] → gI Z.1 k i = gI W.1 k i ∧ gJ Z.1 k i = gJ W.1 k i) ∧ ∀ x, ¬ (25 ≤ x ∧ x ≤ 35) → gI Z.1 48 0 x = gI W.1 48 0 x
theorem FrW.rf {W : Sm} : FrW W W := ⟨rfl, fun _ _ _ => ⟨rfl, rfl⟩, fun _ _ => rfl⟩
theorem FrW.tr {W X Z : Sm} (h : FrW W X) (h2 : FrW X Z) : FrW W Z := ⟨h2.1.trans h.1, fun k i hk => ⟨(h2.2.1 k i hk).1.trans (h.2.1 k i hk).1, (h2.2.1 k i hk).2.trans (h.2.1 k i hk).2⟩, fun x hx => (h2.2.2 x hx).trans (h.2.2 x hx)⟩
theorem FrT.w {W Z : Sm} (h : FrT W Z) : FrW W Z := ⟨h.1, fun k i hk => h.2.1 k i (fun q => hk (by rw [q]; decide)), fun x hx => h.2.2 x (by omega)⟩
theorem FrW.s48 {W : Sm} {x : Nat} {v : Int32} (hx : 25 ≤ x ∧ x ≤ 35) : FrW W (sI W 48 0 x v) := ⟨rfl, fun k i hk => ⟨by rw [gI_sIk (fun q => hk (by rw [q]; decide))], rfl⟩, fun y hy => by rw [gI_sIv, upd_ne (fun q => hy (by rw [q]; exact hx))]⟩
theorem FrW.sk {W : Sm} {k i x : Nat} {v : Int32} (hk : k ∈ [53, 61, 62, 63, 64]) : FrW W (sI W k i x v) := ⟨rfl, fun k' i' hk' => ⟨by rw [gI_sIk (fun q => hk' (by rw [q]; exact List.mem_cons_of_mem _ hk))], rfl⟩, fun y hy => by rw [gI_sIk (fun q => by rw [← q] at hk; exact absurd hk (by decide))]⟩
theorem FrW.sj {W : Sm} {k i x : Nat} {v : Int64} (hk : k ∈ [53, 61, 62, 63, 64]) : FrW W (sJ W k i x v) := ⟨rfl, fun k' i' hk' => ⟨rfl, by
  funext j
  rw [gJ_sJ, if_neg (fun q => hk' (by rw [q.1]; exact List.mem_cons_of_mem _ hk))]⟩, fun y hy => rfl⟩
/-- an error is noted -/
def erC (X : Sm) (e : Int32) : Sm := sI (sI X 3 0 3 e) 3 0 4 (gI X.1 4 0 2)
def erM (W : Sm) (e : Int32) : Sm := sI (sI W 48 0 31 e) 48 0 32 (gI W.1 48 0 26)
theorem c_60 {X : Sm} (a : Int32) : fn_60 a X = some (nI 0, erC X a) := by
  unfold fn_60 erC
  rw [wr_t, gI_sIk (by omega), wr_t]
theorem erC_3 {X : Sm} {e : Int32} : gI (erC X e).1 3 0 3 = e := by
  unfold erC
  rw [gI_sIv, upd_ne (by omega), gI_sIv, upd_at]
theorem erC_4 {X : Sm} {e : Int32} : gI (erC X e).1 3 0 4 = gI X.1 4 0 2 := by
  unfold erC
  rw [gI_sIv, upd_at]
theorem erC_f {X : Sm} {d : Nat} {e : Int32} : Fr (SD d) X (erC X e) := by
  have m : SD d 3 0 := Or.inl (by decide)
  exact (Fr.sI m).tr (Fr.sI m)
theorem erM_31 {W : Sm} {e : Int32} : gI (erM W e).1 48 0 31 = e := by
  unfold erM
  rw [gI_sIv, upd_ne (by omega), gI_sIv, upd_at]
theorem erM_32 {W : Sm} {e : Int32} : gI (erM W e).1 48 0 32 = gI W.1 48 0 26 := by
  unfold erM
  rw [gI_sIv, upd_at]
theorem erM_f {W : Sm} {e : Int32} : FrW W (erM W e) := (FrW.s48 (by omega)).tr (FrW.s48 (by omega))
theorem erM_ne {W : Sm} {e : Nat} (h : 1 ≤ e) (h2 : e ≤ 5) : gI (erM W (nI e)).1 48 0 31 ≠ nI 0 := by
  rw [erM_31]
  exact fun q => by have := (nI_eq (by omega) (by omega)).mp q; omega
