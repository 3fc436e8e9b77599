/-- a state written out over another's outside -/
def zr_mk (w : State) (h : List Cell) (f : List Frame) (u : Nat) : State := { w with heap := ⟨start1.about.heap.toList ++ h⟩, vm := zr_V, threads := #[{ frames := f }], cur := 0, slotsUsed := u, status := .running }
def zr_run0 (s : State) : Bool := match s.status with | .running => true | _ => false
def zr_same (h : List Cell) (f : List Frame) (u : Nat) (s : State) : Bool := decide (s.cur = 0) && (decide (s.slotsUsed = u) && (zr_run0 s && ((match s.threads with
  | ⟨[t]⟩ => (match zr_fr t with | some fs => zr_list zr_frame fs f | none => false)
  | _ => false) && (zr_list zr_cell s.heap.toList (start1.about.heap.toList ++ h) && zr_vmeq zr_V s.vm))))
theorem zr_same_eq {h : List Cell} {f : List Frame} {u : Nat} {s : State} (hs : ∀ (i : Nat) (k : Class), zr_V.classes[i]? = some k → ∃ k', s.vm.classes[i]? = some k' ∧ k.Stays k') (hh : zr_same h f u s = true) : s = zr_mk s h f u := by
  simp only [zr_same, Bool.and_eq_true, decide_eq_true_eq] at hh
  obtain ⟨h1, h2, h3, h4, h5, h6⟩ := hh
  replace h3 : s.status = .running := by
    revert h3; unfold zr_run0; split <;> intro h3 <;> first | assumption | cases h3
  replace h5 : s.heap = ⟨start1.about.heap.toList ++ h⟩ := by
    have := zr_list_eq zr_cell_eq _ _ h5
    rw [← this]
  replace h6 := zr_vmeq_eq _ _ h6 hs
  replace h4 : s.threads = #[{ frames := f }] := by
    split at h4
    · rename_i t ht
      split at h4
      · rename_i fs hf
        rw [ht, zr_fr_eq hf, zr_list_eq zr_frame_eq _ _ h4]
      · cases h4
    · cases h4
  unfold zr_mk
  rw [← h2, ← h5, h6, ← h4]
  cases s
  simp only at h1 h3
  subst h1 h3
  rfl
/-- one stretch of the run -/
theorem zr_leg {tb : Tables} {e : Env} {w : State} {h h' : List Cell} {f f' : List Frame} {u u' n : Nat} (hr : zr_run tb e (zr_same h' f' u') n (zr_mk w h f u) = true) : ∃ w', stepsAlone tb e n (zr_mk w h f u) = zr_mk w' h' f' u' ∧ ∀ j, j < n → zr_two (stepsAlone tb e j (zr_mk w h f u)).frames = true := by
  obtain ⟨a, b⟩ := zr_run_ok n _ hr
  exact ⟨_, zr_same_eq (fun i k hk => zr_stays tb e n (zr_mk w h f u) i k hk) b, a⟩
/-- the first stretch: from the witness' start itself -/
theorem zr_leg0 {tb : Tables} {e : Env} {h' : List Cell} {f' : List Frame} {u' n : Nat} (hr : zr_run tb e (zr_same h' f' u') n start1.about = true) : ∃ w', stepsAlone tb e n start1.about = zr_mk w' h' f' u' ∧ ∀ j, j < n → zr_two (stepsAlone tb e j start1.about).frames = true := by
  obtain ⟨a, b⟩ := zr_run_ok n _ hr
  exact ⟨_, zr_same_eq (fun i k hk => zr_stays tb e n start1.about i k (by rw [← zr_V_eq]; exact hk)) b, a⟩
