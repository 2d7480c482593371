theorem ocn {α : Type} {a x : α} {f : Nat → α} (h : ocase none a f = x) : a = x := h
theorem ocs {α : Type} {a x : α} {f : Nat → α} {b : Nat} (h : ocase (some b) a f = x) : f b = x := h
