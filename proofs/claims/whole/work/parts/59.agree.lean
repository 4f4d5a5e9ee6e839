/-! The agreements, call by call. -/
