def zr_h1 : List Cell := [{ cls := 2, slots := #[.null, .null, .null, .null, .null], vm := .none },
  { cls := 3, slots := #[.ref 32, .ref 33, .ref 34, .null, .null, .int 0], vm := .none },
  { cls := 20, slots := #[.int 0, .int 0, .int 0, .int 0], vm := .none },
  { cls := 20, slots := #[.int 0, .int 0, .int 0, .int 0, .int 0, .int 0, .int 0, .int 0, .int 0, .int 0, .int 0, .int 0, .int 0, .int 0, .int 0, .int 0, .int 0, .int 0, .int 0, .int 0, .int 0, .int 0, .int 0, .int 0, .int 0, .int 0, .int 0, .int 0, .int 0, .int 0, .int 0, .int 0], vm := .none },
  { cls := 22, slots := #[.int 0, .int 0, .int 0, .int 0, .int 0, .int 0, .int 0, .int 0, .int 0, .int 0, .int 0, .int 0, .int 0, .int 0, .int 0, .int 0, .int 0, .int 0, .int 0, .int 0, .int 0, .int 0, .int 0, .int 0, .int 0, .int 0, .int 0, .int 0, .int 0, .int 0, .int 0, .int 0], vm := .none }]
def zr_f1 : List Frame := [.java { method := ⟨3, 0⟩, pc := 28, locals := #[.val (.ref 31)], stack := [.ref 31], locked := none },
  .java { method := ⟨2, 0⟩, pc := 8, locals := #[.val (.ref 30), .unset, .unset, .unset], stack := [.ref 31], locked := none },
  .java { method := ⟨0, 0⟩, pc := 4, locals := #[.val (.ref 0), .unset, .unset, .unset, .unset, .unset, .unset, .unset, .unset, .unset, .unset, .unset, .unset, .unset], stack := [.ref 30], locked := none },
  .native { method := ⟨0, 0⟩, args := #[] }]
def zr_u1 : Nat := 624
set_option maxRecDepth 16384 in
theorem zr_x1 : zr_run start1.p0.tables start1.e0 (zr_same zr_h1 zr_f1 zr_u1) 26 start1.about = true := by decide +kernel
