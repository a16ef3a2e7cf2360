/-! ===== what an EDIT does to a house, and what it answers ===== -/
def oN (b : Int32) : Option Nat := if b = -2 then none else some (cl b)
def frN (h : HA) : Nat := (free h).getD 0
def app (h : HA) (w a b c d e : Int32) (v : Int64) : HA :=
  if w = 0 then (hN h + 1, va_up (hF h) (hN h) (!decide (a = 0)), va_up (hA h) (hN h) (oN b), va_up (hM h) (hN h) c, va_up (hL h) (hN h) [], hB h)
  else if w = 1 then (hN h, hF h, va_up (hA h) (cl a) (oN b), hM h, hL h, hB h)
  else if w = 2 then (hN h, hF h, hA h, hM h, va_up (hL h) (cl a) (hL h (cl a) ++ [cl b]), hB h)
  else if w = 3 then (hN h, hF h, hA h, hM h, va_up (hL h) (cl a) ((hL h (cl a)).eraseIdx (cl b)), hB h)
  else if w = 4 then (hN h, hF h, hA h, va_up (hM h) (cl a) b, hL h, hB h)
  else if w = 5 then (hN h, hF h, hA h, hM h, hL h, va_up (hB h) (frN h) (some (false, cl a, b, d, c, -2, v)))
  else if w = 6 then (hN h, hF h, hA h, hM h, hL h, va_up (hB h) (frN h) (some (true, cl a, b, e, c, d, v)))
  else if w = 7 then (hN h, hF h, hA h, hM h, hL h, va_up (hB h) (cl a) none)
  else if w = 8 then (hN h, hF h, hA h, hM h, hL h, va_up (hB h) (cl a) ((hB h (cl a)).map (fun r => (rM r, rT r, rN r, b, rA r, rB r, rV r))))
  else if w = 9 then (hN h, hF h, hA h, hM h, hL h, va_up (hB h) (cl a) ((hB h (cl a)).map (fun r => (rM r, rT r, rN r, rK r, rA r, rB r, v))))
  else if w = 10 then (hN h, hF h, hA h, hM h, hL h, va_up (hB h) (cl a) ((hB h (cl a)).map (fun r => (rM r, rT r, rN r, rK r, b, rB r, v))))
  else (hN h, hF h, hA h, hM h, hL h, va_up (hB h) (cl a) ((hB h (cl a)).map (fun r => (rM r, cl b, rN r, rK r, rA r, rB r, rV r))))
def ans (h : HA) (w a b : Int32) : Int32 :=
  if w = 0 then nI (hN h)
  else if w = 1 then 1
  else if w = 2 then nI ((hL h (cl a)).length + 1)
  else if w = 3 then nI ((hL h (cl a)).length - 1)
  else if w = 4 then hM h (cl a)
  else if w = 5 then nI (frN h)
  else if w = 6 then nI (frN h)
  else if w = 8 then (match hB h (cl a) with
    | none => 0
    | some r => rK r)
  else 1
