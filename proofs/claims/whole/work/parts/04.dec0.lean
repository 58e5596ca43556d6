def LocW (A : ByteArray) (off : Nat) (w : ByteArray) : Prop := ∀ (i : Nat) (hi : i < w.size), ∃ h : off + i < A.size, A[off + i] = w[i]
def LR {α : Type} (A : ByteArray) (off : Nat) (w : ByteArray) (r r' : Decoder α) : Prop := ∀ (p : Nat) (a : α) (p' : Nat), (ReaderT.run r w).run p = .ok (a, p') → (ReaderT.run r' A).run (off + p) = .ok (a, off + p')
def opOk (w : ByteArray) (k : Nat) : Bool := match w.data.toList[k]? with
  | some b => b != 170 && b != 171 && b != 186 && b != 196 && b != 197
  | none => false
section
variable {A w : ByteArray} {off : Nat} {α β : Type}
theorem LR_pure (a : α) : LR A off w (pure a) (pure a) := by
  intro p b p' h
  have h2 : (Except.ok (a, p) : Except DecodeError (α × Nat)) = .ok (b, p') := h
  cases h2
  rfl
theorem LR_throw (e : DecodeError) (r : Decoder α) : LR A off w (throw e) r := by
  intro p b p' h
  have h2 : (Except.error e : Except DecodeError (α × Nat)) = .ok (b, p') := h
  cases h2
theorem run_bind (r : Decoder α) (f : α → Decoder β) (w : ByteArray) (p : Nat) : (ReaderT.run (r >>= f) w).run p = Except.bind ((ReaderT.run r w).run p) (fun q => (ReaderT.run (f q.1) w).run q.2) := rfl
theorem LR_bind {r r' : Decoder α} {f f' : α → Decoder β} (h1 : LR A off w r r') (h2 : ∀ a, LR A off w (f a) (f' a)) : LR A off w (r >>= f) (r' >>= f') := by
  intro p b p' h
  rw [run_bind] at h ⊢
  cases hr : (ReaderT.run r w).run p with
  | error e => rw [hr] at h; cases h
  | ok q =>
    rw [hr] at h
    rw [h1 p q.1 q.2 hr]
    exact h2 q.1 _ _ _ h
theorem u1_eq (A : ByteArray) (p : Nat) : (ReaderT.run (Reader.u1 : Decoder Nat) A).run p = if h : p < A.size then .ok (A[p].toNat, p + 1) else .error (.truncated p) := by
  have e : (ReaderT.run (Reader.u1 : Decoder Nat) A).run p = (ReaderT.run (if h : p < A.size then (do set (p + 1); pure A[p].toNat) else throw (.truncated p) : Decoder Nat) A).run p := rfl
  rw [e]
  by_cases h : p < A.size
  · rw [dif_pos h, dif_pos h]; rfl
  · rw [dif_neg h, dif_neg h]; rfl
theorem LR_u1 (H : LocW A off w) : LR A off w Reader.u1 Reader.u1 := by
  intro p b p' h
  rw [u1_eq] at h ⊢
  by_cases hp : p < w.size
  · obtain ⟨h2, h3⟩ := H p hp
    rw [dif_pos hp] at h
    rw [dif_pos h2, h3]
    cases h
    rfl
  · rw [dif_neg hp] at h; cases h
theorem LR_map {r r' : Decoder α} (f : α → β) (h1 : LR A off w r r') : LR A off w (f <$> r) (f <$> r') := LR_bind h1 (fun a => LR_pure (f a))
theorem LR_u2 (H : LocW A off w) : LR A off w Reader.u2 Reader.u2 := LR_bind (LR_u1 H) (fun _ => LR_bind (LR_u1 H) (fun _ => LR_pure _))
theorem LR_s1 (H : LocW A off w) : LR A off w Reader.s1 Reader.s1 := LR_map _ (LR_u1 H)
theorem LR_s2 (H : LocW A off w) : LR A off w Reader.s2 Reader.s2 := LR_map _ (LR_u2 H)
theorem LR_s4 (H : LocW A off w) : LR A off w Reader.s4 Reader.s4 := LR_map _ (LR_bind (LR_u2 H) (fun _ => LR_bind (LR_u2 H) (fun _ => LR_pure _)))
theorem LR_if {c : Prop} [Decidable c] {r r' s s' : Decoder α} (h1 : LR A off w r r') (h2 : LR A off w s s') : LR A off w (if c then r else s) (if c then r' else s') := by
  by_cases h : c
  · rw [if_pos h, if_pos h]; exact h1
  · rw [if_neg h, if_neg h]; exact h2
theorem LR_ii (H : LocW A off w) (k k' : Nat) : LR A off w (Decoder.invokeinterface k) (Decoder.invokeinterface k') := by
  unfold Decoder.invokeinterface
  exact LR_bind (LR_u2 H) fun _ => LR_bind (LR_u1 H) fun _ => LR_bind (LR_u1 H) fun _ => by
    split
    · exact LR_pure _
    · exact LR_bind (LR_throw _ _) (fun _ => LR_pure _)
theorem LR_na (H : LocW A off w) (k k' : Nat) : LR A off w (Decoder.newarray k) (Decoder.newarray k') := by
  unfold Decoder.newarray
  refine LR_bind (LR_u1 H) fun op => ?_
  split <;> first | exact LR_pure _ | exact LR_throw _ _
set_option maxRecDepth 100000 in
set_option maxHeartbeats 4000000 in
theorem LR_body (H : LocW A off w) (k k' : Nat) : ∃ (f f' : Nat → Decoder Instr), Decoder.instr k = (Reader.u1 >>= f) ∧ Decoder.instr k' = (Reader.u1 >>= f') ∧ ∀ op, op ≠ 170 → op ≠ 171 → op ≠ 186 → op ≠ 196 → op ≠ 197 → LR A off w (f op) (f' op) := by
  refine ⟨_, _, rfl, rfl, fun op h0 h1 h2 h3 h4 => ?_⟩
  split <;> first
    | exact LR_pure _
    | exact LR_throw _ _
    | exact LR_bind (LR_u1 H) (fun _ => LR_pure _)
    | exact LR_bind (LR_u2 H) (fun _ => LR_pure _)
    | exact LR_bind (LR_s2 H) (fun _ => LR_pure _)
    | exact LR_bind (LR_s1 H) (fun _ => LR_pure _)
    | exact LR_bind (LR_s4 H) (fun _ => LR_pure _)
    | exact LR_bind (LR_u1 H) (fun _ => LR_bind (LR_s1 H) fun _ => LR_pure _)
    | exact LR_ii H _ _
    | exact LR_na H _ _
    | exact absurd rfl ‹_›
end

theorem w_get {w : ByteArray} {k : Nat} (h : k < w.size) : w.data.toList[k]? = some w[k] := by
  have h2 : k < w.data.toList.length := by simpa using h
  rw [List.getElem?_eq_getElem h2]
  rfl
theorem decode_loc {A w : ByteArray} {off k : Nat} {i : Instr} {n : Nat} (H : LocW A off w) (h : decode w k = .ok (i, n)) (ho : opOk w k = true) : decode A (off + k) = .ok (i, n) := by
  have e : ∀ (A : ByteArray) (k : Nat), decode A k = Except.bind ((ReaderT.run (Decoder.instr k) A).run k) (fun q => .ok (q.1, q.2 - k)) := fun _ _ => rfl
  rw [e] at h ⊢
  obtain ⟨f, f', e1, e2, hf⟩ := LR_body H k (off + k)
  rw [e1, run_bind, u1_eq] at h
  rw [e2, run_bind]
  by_cases hp : k < w.size
  · rw [dif_pos hp] at h
    obtain ⟨h2, h3⟩ := H k hp
    have e3 : (ReaderT.run (Reader.u1 : Decoder Nat) A).run (off + k) = .ok (w[k].toNat, off + (k + 1)) := by
      rw [u1_eq, dif_pos h2, h3]; rfl
    rw [e3]
    have ho2 : ∀ b : UInt8, w[k] = b → (b != 170 && b != 171 && b != 186 && b != 196 && b != 197) = true := fun b hb => by
      unfold opOk at ho
      rw [w_get hp] at ho
      rw [← hb]
      exact ho
    have ho3 := ho2 _ rfl
    simp only [Bool.and_eq_true, bne_iff_ne, ne_eq] at ho3
    have hn : ∀ c : Nat, c < 256 → w[k].toNat = c → w[k] = UInt8.ofNat c := fun c hc hh => by
      rw [← hh]; exact (UInt8.ofNat_toNat).symm
    cases hr : (ReaderT.run (f w[k].toNat) w).run (k + 1) with
    | error x =>
      exfalso
      have h4 : Except.bind (Except.bind (Except.ok (w[k].toNat, k + 1) : Except DecodeError (Nat × Nat)) (fun q => (ReaderT.run (f q.1) w).run q.2)) (fun q => Except.ok (q.1, q.2 - k)) = Except.ok (i, n) := h
      have h5 : Except.bind ((ReaderT.run (f w[k].toNat) w).run (k + 1)) (fun q => Except.ok (q.1, q.2 - k)) = Except.ok (i, n) := h4
      rw [hr] at h5
      cases h5
    | ok q =>
      have h5 : Except.bind ((ReaderT.run (f w[k].toNat) w).run (k + 1)) (fun q => Except.ok (q.1, q.2 - k)) = Except.ok (i, n) := h
      rw [hr] at h5
      have h6 := hf w[k].toNat (fun c => ho3.1.1.1.1 (hn _ (by decide) c)) (fun c => ho3.1.1.1.2 (hn _ (by decide) c)) (fun c => ho3.1.1.2 (hn _ (by decide) c)) (fun c => ho3.1.2 (hn _ (by decide) c)) (fun c => ho3.2 (hn _ (by decide) c)) (k + 1) q.1 q.2 hr
      show Except.bind ((ReaderT.run (f' w[k].toNat) A).run (off + (k + 1))) (fun q => Except.ok (q.1, q.2 - (off + k))) = _
      rw [h6]
      have h7 : Except.ok (q.1, q.2 - k) = (Except.ok (i, n) : Except DecodeError (Instr × Nat)) := h5
      show Except.ok (q.1, off + q.2 - (off + k)) = _
      rw [← h7, show off + q.2 - (off + k) = q.2 - k by omega]
  · rw [dif_neg hp] at h; cases h
theorem loc_of {A w : ByteArray} {off : Nat} (h : (A.data.toList.drop off).take w.size = w.data.toList) : LocW A off w := by
  intro i hi
  have h1 : w.data.toList[i]? = some w[i] := w_get hi
  rw [← h, List.getElem?_take, if_pos hi, List.getElem?_drop] at h1
  obtain ⟨h2, h3⟩ := List.getElem?_eq_some_iff.mp h1
  have h4 : off + i < A.size := by simpa using h2
  exact ⟨h4, by rw [← h3]; rfl⟩
def dec2 (w : ByteArray) (k : Nat) : Except DecodeError (Instr × Nat) := if opOk w k = true then decode w k else .error (.truncated 0)
abbrev De (w : ByteArray) (k : Nat) (i : Instr) (n : Nat) : Prop := dec2 w k = .ok (i, n)
theorem dAt {A w : ByteArray} {off k pc : Nat} {i : Instr} {n : Nat} (H : LocW A off w) (h : De w k i n) (e : off + k = pc) : decode A pc = .ok (i, n) := by
  rw [← e]
  have h2 : dec2 w k = .ok (i, n) := h
  unfold dec2 at h2
  by_cases q : opOk w k = true
  · rw [if_pos q] at h2; exact decode_loc H h2 q
  · rw [if_neg q] at h2; cases h2
