/-! reads of a row whose scratches are left out -/
section WID
variable {h : am_H} {v : pv_T}
end WID
