/-! strokes of the reference's -/
section ENG
variable {h : am_H} {v : pv_T}
end ENG
