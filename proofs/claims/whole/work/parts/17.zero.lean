def z0 : HP := (fun _ _ => 0, fun _ _ => 0)
